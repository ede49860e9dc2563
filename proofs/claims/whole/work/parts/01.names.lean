/-! ===== BEGIN words of one list among another's, by their places ===== -/
theorem goodIn_r {big : List Cond} (ws : List Cond) (ps : List Nat) (hp : ws = ps.filterMap (fun i => big[i]?)) (h : ws.all goodWord = true) : GoodIn big ws := by
  intro w hw
  have h1 := List.all_eq_true.mp h w hw
  rw [hp] at hw
  obtain ⟨i, -, hi⟩ := List.mem_filterMap.mp hw
  have hm : w ∈ big := by first | exact List.mem_of_getElem? hi | exact List.getElem?_mem hi
  exact ⟨hm, good_of_word h1⟩
theorem goodIn_app {big a b : List Cond} (ha : GoodIn big a) (hb : GoodIn big b) : GoodIn big (a ++ b) := fun w h => (List.mem_append.mp h).elim (ha w) (hb w)
theorem goodIn_ca {big a b : List Cond} {c : Cond} (ha : GoodIn big (c :: a)) (hb : GoodIn big b) : GoodIn big (c :: (a ++ b)) := fun w h => (List.mem_cons.mp h).elim (fun e => ha w (List.mem_cons.mpr (Or.inl e))) (fun h => (List.mem_append.mp h).elim (fun h => ha w (List.mem_cons.mpr (Or.inr h))) (hb w))
theorem goodIn_sub {big ws : List Cond} (hm : ∀ w ∈ ws, w ∈ big) (h : ws.all goodWord = true) : GoodIn big ws := fun w hw => ⟨hm w hw, good_of_word (List.all_eq_true.mp h w hw)⟩
/-! ===== END ===== -/

/-! ===== BEGIN printed: names, fields, word lists, decode rows ===== -/
def RX0 : String := "SignpostYard$Grid"
def TX0 : u_T := fun k => match k with
  | 0 => ("SignpostYard$Grid", "columns", "I", true)
  | _ => ("SignpostYard$Grid", "cells", "[I", true)
def tyX0 : Nat → FieldType := fun k => match k with
  | 0 => .int
  | _ => .array .int
abbrev wsX00 : List Cond := u_ws RX0 TX0 2
theorem nmX0 : ∀ a, a < 2 → ∀ b, b < 2 → a ≠ b → (TX0 a).2.1 ≠ (TX0 b).2.1 := by decide +kernel
theorem tyX0_ok : ∀ k, k < 2 → parseFieldDescriptor (TX0 k).2.2.1 = some (tyX0 k) := by decide +kernel
abbrev cX0_init : ByteArray := prog_2_method_1_code
def yX0_init : MethodName := ⟨RX0, "<init>", "(II)V"⟩
abbrev cX0_at : ByteArray := prog_2_method_2_code
def yX0_at : MethodName := ⟨RX0, "at", "(II)I"⟩
abbrev cX0_put : ByteArray := prog_2_method_3_code
def yX0_put : MethodName := ⟨RX0, "put", "(III)V"⟩
abbrev cX0_fill : ByteArray := prog_2_method_4_code
def yX0_fill : MethodName := ⟨RX0, "fill", "(I)V"⟩
abbrev cX0_become : ByteArray := prog_2_method_5_code
def yX0_become : MethodName := ⟨RX0, "become", "(LSignpostYard$Grid;)V"⟩
def RX1 : String := "SignpostYard$Letters"
def TX1 : u_T := fun k => match k with
  | 0 => ("SignpostYard$Letters", "letters", "LSignpostYard$Grid;", true)
  | 1 => ("SignpostYard$Letters", "numbers", "LSignpostYard$Grid;", true)
  | 2 => ("SignpostYard$Letters", "length", "I", false)
  | _ => ("SignpostYard$Letters", "place", "I", false)
def tyX1 : Nat → FieldType := fun k => match k with
  | 0 => .object "SignpostYard$Grid"
  | 1 => .object "SignpostYard$Grid"
  | 2 => .int
  | _ => .int
abbrev wsX10 : List Cond := u_ws RX1 TX1 4
theorem nmX1 : ∀ a, a < 4 → ∀ b, b < 4 → a ≠ b → (TX1 a).2.1 ≠ (TX1 b).2.1 := by decide +kernel
theorem tyX1_ok : ∀ k, k < 4 → parseFieldDescriptor (TX1 k).2.2.1 = some (tyX1 k) := by decide +kernel
abbrev cX1_init : ByteArray := prog_3_method_1_code
def yX1_init : MethodName := ⟨RX1, "<init>", "()V"⟩
abbrev cX1_length : ByteArray := prog_3_method_2_code
def yX1_length : MethodName := ⟨RX1, "length", "()I"⟩
abbrev cX1_append : ByteArray := prog_3_method_3_code
def yX1_append : MethodName := ⟨RX1, "append", "(I)I"⟩
abbrev cX1_empty : ByteArray := prog_3_method_4_code
def yX1_empty : MethodName := ⟨RX1, "empty", "()I"⟩
abbrev cX1_readInto : ByteArray := prog_3_method_5_code
def yX1_readInto : MethodName := ⟨RX1, "readInto", "(LSignpostYard$Yard;)I"⟩
abbrev cX1_readItem : ByteArray := prog_3_method_6_code
def yX1_readItem : MethodName := ⟨RX1, "readItem", "(LSignpostYard$Yard;Z)Z"⟩
abbrev cX1_numbersBehind : ByteArray := prog_3_method_7_code
def yX1_numbersBehind : MethodName := ⟨RX1, "numbersBehind", "(I)I"⟩
abbrev cX1_readNumbers : ByteArray := prog_3_method_8_code
def yX1_readNumbers : MethodName := ⟨RX1, "readNumbers", "(I)Z"⟩
abbrev cX1_readFigure : ByteArray := prog_3_method_9_code
def yX1_readFigure : MethodName := ⟨RX1, "readFigure", "()I"⟩
abbrev cX1_letterHere : ByteArray := prog_3_method_10_code
def yX1_letterHere : MethodName := ⟨RX1, "letterHere", "()I"⟩
def RX2 : String := "SignpostYard$Notes"
def TX2 : u_T := fun k => match k with
  | 0 => ("SignpostYard$Notes", "notes", "LSignpostYard$Grid;", true)
  | _ => ("SignpostYard$Notes", "held", "I", false)
def tyX2 : Nat → FieldType := fun k => match k with
  | 0 => .object "SignpostYard$Grid"
  | _ => .int
abbrev wsX20 : List Cond := u_ws RX2 TX2 2
theorem nmX2 : ∀ a, a < 2 → ∀ b, b < 2 → a ≠ b → (TX2 a).2.1 ≠ (TX2 b).2.1 := by decide +kernel
theorem tyX2_ok : ∀ k, k < 2 → parseFieldDescriptor (TX2 k).2.2.1 = some (tyX2 k) := by decide +kernel
abbrev cX2_init : ByteArray := prog_4_method_1_code
def yX2_init : MethodName := ⟨RX2, "<init>", "()V"⟩
abbrev cX2_held : ByteArray := prog_4_method_2_code
def yX2_held : MethodName := ⟨RX2, "held", "()I"⟩
abbrev cX2_number : ByteArray := prog_4_method_3_code
def yX2_number : MethodName := ⟨RX2, "number", "(II)I"⟩
abbrev cX2_add : ByteArray := prog_4_method_4_code
def yX2_add : MethodName := ⟨RX2, "add", "(III)I"⟩
abbrev cX2_empty : ByteArray := prog_4_method_5_code
def yX2_empty : MethodName := ⟨RX2, "empty", "()I"⟩
def RX3 : String := "SignpostYard$Roads"
def TX3 : u_T := fun k => match k with
  | 0 => ("SignpostYard$Roads", "towns", "I", false)
  | 1 => ("SignpostYard$Roads", "miles", "LSignpostYard$Grid;", true)
  | _ => ("SignpostYard$Roads", "paths", "LSignpostYard$Grid;", true)
def tyX3 : Nat → FieldType := fun k => match k with
  | 0 => .int
  | 1 => .object "SignpostYard$Grid"
  | _ => .object "SignpostYard$Grid"
abbrev wsX30 : List Cond := u_ws RX3 TX3 3
theorem nmX3 : ∀ a, a < 3 → ∀ b, b < 3 → a ≠ b → (TX3 a).2.1 ≠ (TX3 b).2.1 := by decide +kernel
theorem tyX3_ok : ∀ k, k < 3 → parseFieldDescriptor (TX3 k).2.2.1 = some (tyX3 k) := by decide +kernel
abbrev cX3_init : ByteArray := prog_5_method_1_code
def yX3_init : MethodName := ⟨RX3, "<init>", "()V"⟩
abbrev cX3_become : ByteArray := prog_5_method_2_code
def yX3_become : MethodName := ⟨RX3, "become", "(LSignpostYard$Roads;)V"⟩
abbrev cX3_clear : ByteArray := prog_5_method_3_code
def yX3_clear : MethodName := ⟨RX3, "clear", "(I)V"⟩
abbrev cX3_towns : ByteArray := prog_5_method_4_code
def yX3_towns : MethodName := ⟨RX3, "towns", "()I"⟩
abbrev cX3_change : ByteArray := prog_5_method_5_code
def yX3_change : MethodName := ⟨RX3, "change", "(III)V"⟩
abbrev cX3_set : ByteArray := prog_5_method_6_code
def yX3_set : MethodName := ⟨RX3, "set", "(III)V"⟩
abbrev cX3_survey : ByteArray := prog_5_method_7_code
def yX3_survey : MethodName := ⟨RX3, "survey", "()V"⟩
abbrev cX3_shorten : ByteArray := prog_5_method_8_code
def yX3_shorten : MethodName := ⟨RX3, "shorten", "(III)V"⟩
abbrev cX3_between : ByteArray := prog_5_method_9_code
def yX3_between : MethodName := ⟨RX3, "between", "(II)I"⟩
abbrev cX3_pathMiles : ByteArray := prog_5_method_10_code
def yX3_pathMiles : MethodName := ⟨RX3, "pathMiles", "(II)I"⟩
abbrev cX3_firstStep : ByteArray := prog_5_method_11_code
def yX3_firstStep : MethodName := ⟨RX3, "firstStep", "(II)I"⟩
abbrev cX3_townBehind : ByteArray := prog_5_method_12_code
def yX3_townBehind : MethodName := ⟨RX3, "townBehind", "(I)I"⟩
abbrev cX3_turned : ByteArray := prog_5_method_13_code
def yX3_turned : MethodName := ⟨RX3, "turned", "(II)I"⟩
abbrev cX3_nearest : ByteArray := prog_5_method_14_code
def yX3_nearest : MethodName := ⟨RX3, "nearest", "(I)I"⟩
abbrev cX3_howMany : ByteArray := prog_5_method_15_code
def yX3_howMany : MethodName := ⟨RX3, "howMany", "()I"⟩
abbrev cX3_milesOfAll : ByteArray := prog_5_method_16_code
def yX3_milesOfAll : MethodName := ⟨RX3, "milesOfAll", "()I"⟩
def RX4 : String := "SignpostYard$Shelf"
def TX4 : u_T := fun k => match k with
  | 0 => ("SignpostYard$Shelf", "yards", "[LSignpostYard$Yard;", true)
  | 1 => ("SignpostYard$Shelf", "held", "I", false)
  | _ => ("SignpostYard$Shelf", "free", "I", false)
def tyX4 : Nat → FieldType := fun k => match k with
  | 0 => .array (.object "SignpostYard$Yard")
  | 1 => .int
  | _ => .int
abbrev wsX40 : List Cond := u_ws RX4 TX4 3
theorem nmX4 : ∀ a, a < 3 → ∀ b, b < 3 → a ≠ b → (TX4 a).2.1 ≠ (TX4 b).2.1 := by decide +kernel
theorem tyX4_ok : ∀ k, k < 3 → parseFieldDescriptor (TX4 k).2.2.1 = some (tyX4 k) := by decide +kernel
abbrev cX4_init : ByteArray := prog_6_method_1_code
def yX4_init : MethodName := ⟨RX4, "<init>", "(I)V"⟩
abbrev cX4_held : ByteArray := prog_6_method_2_code
def yX4_held : MethodName := ⟨RX4, "held", "()I"⟩
abbrev cX4_empty : ByteArray := prog_6_method_3_code
def yX4_empty : MethodName := ⟨RX4, "empty", "()V"⟩
abbrev cX4_setAside : ByteArray := prog_6_method_4_code
def yX4_setAside : MethodName := ⟨RX4, "setAside", "(LSignpostYard$Yard;)V"⟩
abbrev cX4_giveBack : ByteArray := prog_6_method_5_code
def yX4_giveBack : MethodName := ⟨RX4, "giveBack", "(LSignpostYard$Yard;)Z"⟩
def RX5 : String := "SignpostYard$Yard"
def TX5 : u_T := fun k => match k with
  | 0 => ("SignpostYard$Yard", "roads", "LSignpostYard$Roads;", true)
  | 1 => ("SignpostYard$Yard", "post", "LSignpostYard$Grid;", true)
  | 2 => ("SignpostYard$Yard", "arms", "LSignpostYard$Grid;", true)
  | 3 => ("SignpostYard$Yard", "armMiles", "LSignpostYard$Grid;", true)
  | 4 => ("SignpostYard$Yard", "walker", "LSignpostYard$Grid;", true)
  | 5 => ("SignpostYard$Yard", "posts", "I", false)
  | 6 => ("SignpostYard$Yard", "walkers", "I", false)
  | 7 => ("SignpostYard$Yard", "hour", "I", false)
  | 8 => ("SignpostYard$Yard", "years", "I", false)
  | _ => ("SignpostYard$Yard", "twisted", "I", false)
def tyX5 : Nat → FieldType := fun k => match k with
  | 0 => .object "SignpostYard$Roads"
  | 1 => .object "SignpostYard$Grid"
  | 2 => .object "SignpostYard$Grid"
  | 3 => .object "SignpostYard$Grid"
  | 4 => .object "SignpostYard$Grid"
  | 5 => .int
  | 6 => .int
  | 7 => .int
  | 8 => .int
  | _ => .int
abbrev wsX50 : List Cond := u_ws RX5 TX5 10
theorem nmX5 : ∀ a, a < 10 → ∀ b, b < 10 → a ≠ b → (TX5 a).2.1 ≠ (TX5 b).2.1 := by decide +kernel
theorem tyX5_ok : ∀ k, k < 10 → parseFieldDescriptor (TX5 k).2.2.1 = some (tyX5 k) := by decide +kernel
abbrev cX5_init : ByteArray := prog_7_method_1_code
def yX5_init : MethodName := ⟨RX5, "<init>", "()V"⟩
abbrev cX5_become : ByteArray := prog_7_method_2_code
def yX5_become : MethodName := ⟨RX5, "become", "(LSignpostYard$Yard;)V"⟩
abbrev cX5_clear : ByteArray := prog_7_method_3_code
def yX5_clear : MethodName := ⟨RX5, "clear", "()V"⟩
abbrev cX5_tellTowns : ByteArray := prog_7_method_4_code
def yX5_tellTowns : MethodName := ⟨RX5, "tellTowns", "(I)Z"⟩
abbrev cX5_tellRoad : ByteArray := prog_7_method_5_code
def yX5_tellRoad : MethodName := ⟨RX5, "tellRoad", "(III)Z"⟩
abbrev cX5_tellPost : ByteArray := prog_7_method_6_code
def yX5_tellPost : MethodName := ⟨RX5, "tellPost", "(III)Z"⟩
abbrev cX5_tellWalker : ByteArray := prog_7_method_7_code
def yX5_tellWalker : MethodName := ⟨RX5, "tellWalker", "(II)Z"⟩
abbrev cX5_paintAll : ByteArray := prog_7_method_8_code
def yX5_paintAll : MethodName := ⟨RX5, "paintAll", "()V"⟩
abbrev cX5_roads : ByteArray := prog_7_method_9_code
def yX5_roads : MethodName := ⟨RX5, "roads", "()LSignpostYard$Roads;"⟩
abbrev cX5_towns : ByteArray := prog_7_method_10_code
def yX5_towns : MethodName := ⟨RX5, "towns", "()I"⟩
abbrev cX5_posts : ByteArray := prog_7_method_11_code
def yX5_posts : MethodName := ⟨RX5, "posts", "()I"⟩
abbrev cX5_walkers : ByteArray := prog_7_method_12_code
def yX5_walkers : MethodName := ⟨RX5, "walkers", "()I"⟩
abbrev cX5_hour : ByteArray := prog_7_method_13_code
def yX5_hour : MethodName := ⟨RX5, "hour", "()I"⟩
abbrev cX5_years : ByteArray := prog_7_method_14_code
def yX5_years : MethodName := ⟨RX5, "years", "()I"⟩
abbrev cX5_isTown : ByteArray := prog_7_method_15_code
def yX5_isTown : MethodName := ⟨RX5, "isTown", "(I)Z"⟩
abbrev cX5_areTwoTowns : ByteArray := prog_7_method_16_code
def yX5_areTwoTowns : MethodName := ⟨RX5, "areTwoTowns", "(II)Z"⟩
abbrev cX5_isPost : ByteArray := prog_7_method_17_code
def yX5_isPost : MethodName := ⟨RX5, "isPost", "(I)Z"⟩
abbrev cX5_isWalker : ByteArray := prog_7_method_18_code
def yX5_isWalker : MethodName := ⟨RX5, "isWalker", "(I)Z"⟩
abbrev cX5_kindOf : ByteArray := prog_7_method_19_code
def yX5_kindOf : MethodName := ⟨RX5, "kindOf", "(I)I"⟩
abbrev cX5_townOf : ByteArray := prog_7_method_20_code
def yX5_townOf : MethodName := ⟨RX5, "townOf", "(I)I"⟩
abbrev cX5_ageOf : ByteArray := prog_7_method_21_code
def yX5_ageOf : MethodName := ⟨RX5, "ageOf", "(I)I"⟩
abbrev cX5_armOf : ByteArray := prog_7_method_22_code
def yX5_armOf : MethodName := ⟨RX5, "armOf", "(II)I"⟩
abbrev cX5_milesOf : ByteArray := prog_7_method_23_code
def yX5_milesOf : MethodName := ⟨RX5, "milesOf", "(II)I"⟩
abbrev cX5_placeOf : ByteArray := prog_7_method_24_code
def yX5_placeOf : MethodName := ⟨RX5, "placeOf", "(I)I"⟩
abbrev cX5_goalOf : ByteArray := prog_7_method_25_code
def yX5_goalOf : MethodName := ⟨RX5, "goalOf", "(I)I"⟩
abbrev cX5_hasCome : ByteArray := prog_7_method_26_code
def yX5_hasCome : MethodName := ⟨RX5, "hasCome", "(I)Z"⟩
abbrev cX5_isRetired : ByteArray := prog_7_method_27_code
def yX5_isRetired : MethodName := ⟨RX5, "isRetired", "(I)Z"⟩
abbrev cX5_noneRetired : ByteArray := prog_7_method_28_code
def yX5_noneRetired : MethodName := ⟨RX5, "noneRetired", "(I)Z"⟩
abbrev cX5_comeCount : ByteArray := prog_7_method_29_code
def yX5_comeCount : MethodName := ⟨RX5, "comeCount", "()I"⟩
abbrev cX5_retiredCount : ByteArray := prog_7_method_30_code
def yX5_retiredCount : MethodName := ⟨RX5, "retiredCount", "()I"⟩
abbrev cX5_lowestPostIn : ByteArray := prog_7_method_31_code
def yX5_lowestPostIn : MethodName := ⟨RX5, "lowestPostIn", "(I)I"⟩
abbrev cX5_pointing : ByteArray := prog_7_method_32_code
def yX5_pointing : MethodName := ⟨RX5, "pointing", "(II)I"⟩
abbrev cX5_turnsOf : ByteArray := prog_7_method_33_code
def yX5_turnsOf : MethodName := ⟨RX5, "turnsOf", "(I)I"⟩
abbrev cX5_passHours : ByteArray := prog_7_method_34_code
def yX5_passHours : MethodName := ⟨RX5, "passHours", "(I)V"⟩
abbrev cX5_stepFrom : ByteArray := prog_7_method_35_code
def yX5_stepFrom : MethodName := ⟨RX5, "stepFrom", "(II)I"⟩
abbrev cX5_passYear : ByteArray := prog_7_method_36_code
def yX5_passYear : MethodName := ⟨RX5, "passYear", "()I"⟩
abbrev cX5_paintPost : ByteArray := prog_7_method_37_code
def yX5_paintPost : MethodName := ⟨RX5, "paintPost", "(I)I"⟩
abbrev cX5_movePost : ByteArray := prog_7_method_38_code
def yX5_movePost : MethodName := ⟨RX5, "movePost", "(II)V"⟩
abbrev cX5_retirePost : ByteArray := prog_7_method_39_code
def yX5_retirePost : MethodName := ⟨RX5, "retirePost", "(I)V"⟩
abbrev cX5_turnInto : ByteArray := prog_7_method_40_code
def yX5_turnInto : MethodName := ⟨RX5, "turnInto", "(II)V"⟩
abbrev cX5_twist : ByteArray := prog_7_method_41_code
def yX5_twist : MethodName := ⟨RX5, "twist", "(I)V"⟩
abbrev cX5_dropPosts : ByteArray := prog_7_method_42_code
def yX5_dropPosts : MethodName := ⟨RX5, "dropPosts", "()V"⟩
abbrev cX5_standPlain : ByteArray := prog_7_method_43_code
def yX5_standPlain : MethodName := ⟨RX5, "standPlain", "(I)V"⟩
def RX6 : String := "SignpostYard"
def TX6 : u_T := fun k => match k with
  | 0 => ("SignpostYard", "text", "LSignpostYard$Letters;", true)
  | 1 => ("SignpostYard", "now", "LSignpostYard$Yard;", true)
  | 2 => ("SignpostYard", "trial", "LSignpostYard$Yard;", true)
  | 3 => ("SignpostYard", "undone", "LSignpostYard$Shelf;", true)
  | 4 => ("SignpostYard", "kept", "LSignpostYard$Shelf;", true)
  | 5 => ("SignpostYard", "tellings", "LSignpostYard$Notes;", true)
  | _ => ("SignpostYard", "sightings", "LSignpostYard$Notes;", true)
def tyX6 : Nat → FieldType := fun k => match k with
  | 0 => .object "SignpostYard$Letters"
  | 1 => .object "SignpostYard$Yard"
  | 2 => .object "SignpostYard$Yard"
  | 3 => .object "SignpostYard$Shelf"
  | 4 => .object "SignpostYard$Shelf"
  | 5 => .object "SignpostYard$Notes"
  | _ => .object "SignpostYard$Notes"
abbrev wsX60 : List Cond := u_ws RX6 TX6 7
theorem nmX6 : ∀ a, a < 7 → ∀ b, b < 7 → a ≠ b → (TX6 a).2.1 ≠ (TX6 b).2.1 := by decide +kernel
theorem tyX6_ok : ∀ k, k < 7 → parseFieldDescriptor (TX6 k).2.2.1 = some (tyX6 k) := by decide +kernel
abbrev cX6_init : ByteArray := prog_1_method_1_code
def yX6_init : MethodName := ⟨RX6, "<init>", "()V"⟩
abbrev cX6_write : ByteArray := prog_1_method_2_code
def yX6_write : MethodName := ⟨RX6, "write", "(I)I"⟩
abbrev cX6_wipe : ByteArray := prog_1_method_3_code
def yX6_wipe : MethodName := ⟨RX6, "wipe", "()I"⟩
abbrev cX6_fault : ByteArray := prog_1_method_4_code
def yX6_fault : MethodName := ⟨RX6, "fault", "()I"⟩
abbrev cX6_lay : ByteArray := prog_1_method_5_code
def yX6_lay : MethodName := ⟨RX6, "lay", "()I"⟩
abbrev cX6_road : ByteArray := prog_1_method_6_code
def yX6_road : MethodName := ⟨RX6, "road", "(II)I"⟩
abbrev cX6_post : ByteArray := prog_1_method_7_code
def yX6_post : MethodName := ⟨RX6, "post", "(II)I"⟩
abbrev cX6_arm : ByteArray := prog_1_method_8_code
def yX6_arm : MethodName := ⟨RX6, "arm", "(III)I"⟩
abbrev cX6_walker : ByteArray := prog_1_method_9_code
def yX6_walker : MethodName := ⟨RX6, "walker", "(II)I"⟩
abbrev cX6_pass : ByteArray := prog_1_method_10_code
def yX6_pass : MethodName := ⟨RX6, "pass", "(I)I"⟩
abbrev cX6_year : ByteArray := prog_1_method_11_code
def yX6_year : MethodName := ⟨RX6, "year", "()I"⟩
abbrev cX6_lays : ByteArray := prog_1_method_12_code
def yX6_lays : MethodName := ⟨RX6, "lays", "(III)I"⟩
abbrev cX6_paint : ByteArray := prog_1_method_13_code
def yX6_paint : MethodName := ⟨RX6, "paint", "(I)I"⟩
abbrev cX6_move : ByteArray := prog_1_method_14_code
def yX6_move : MethodName := ⟨RX6, "move", "(II)I"⟩
abbrev cX6_retire : ByteArray := prog_1_method_15_code
def yX6_retire : MethodName := ⟨RX6, "retire", "(I)I"⟩
abbrev cX6_undo : ByteArray := prog_1_method_16_code
def yX6_undo : MethodName := ⟨RX6, "undo", "()I"⟩
abbrev cX6_comes : ByteArray := prog_1_method_17_code
def yX6_comes : MethodName := ⟨RX6, "comes", "(I)I"⟩
abbrev cX6_trail : ByteArray := prog_1_method_18_code
def yX6_trail : MethodName := ⟨RX6, "trail", "(II)I"⟩
abbrev cX6_lost : ByteArray := prog_1_method_19_code
def yX6_lost : MethodName := ⟨RX6, "lost", "()I"⟩
abbrev cX6_helps : ByteArray := prog_1_method_20_code
def yX6_helps : MethodName := ⟨RX6, "helps", "(I)I"⟩
abbrev cX6_comersHelpedIn : ByteArray := prog_1_method_21_code
def yX6_comersHelpedIn : MethodName := ⟨RX6, "comersHelpedIn", "(I)I"⟩
abbrev cX6_paints : ByteArray := prog_1_method_22_code
def yX6_paints : MethodName := ⟨RX6, "paints", "(I)I"⟩
abbrev cX6_comersPainted : ByteArray := prog_1_method_23_code
def yX6_comersPainted : MethodName := ⟨RX6, "comersPainted", "(I)I"⟩
abbrev cX6_cover : ByteArray := prog_1_method_24_code
def yX6_cover : MethodName := ⟨RX6, "cover", "(I)I"⟩
abbrev cX6_isCover : ByteArray := prog_1_method_25_code
def yX6_isCover : MethodName := ⟨RX6, "isCover", "(I)Z"⟩
abbrev cX6_far : ByteArray := prog_1_method_26_code
def yX6_far : MethodName := ⟨RX6, "far", "(II)I"⟩
abbrev cX6_told : ByteArray := prog_1_method_27_code
def yX6_told : MethodName := ⟨RX6, "told", "(III)I"⟩
abbrev cX6_stood : ByteArray := prog_1_method_28_code
def yX6_stood : MethodName := ⟨RX6, "stood", "()I"⟩
abbrev cX6_tellsAll : ByteArray := prog_1_method_29_code
def yX6_tellsAll : MethodName := ⟨RX6, "tellsAll", "(I)Z"⟩
abbrev cX6_next : ByteArray := prog_1_method_30_code
def yX6_next : MethodName := ⟨RX6, "next", "()I"⟩
abbrev cX6_mostAlike : ByteArray := prog_1_method_31_code
def yX6_mostAlike : MethodName := ⟨RX6, "mostAlike", "(II)I"⟩
abbrev cX6_alikeWith : ByteArray := prog_1_method_32_code
def yX6_alikeWith : MethodName := ⟨RX6, "alikeWith", "(III)I"⟩
abbrev cX6_tellAlike : ByteArray := prog_1_method_33_code
def yX6_tellAlike : MethodName := ⟨RX6, "tellAlike", "(III)Z"⟩
abbrev cX6_seen : ByteArray := prog_1_method_34_code
def yX6_seen : MethodName := ⟨RX6, "seen", "(III)I"⟩
abbrev cX6_kinds : ByteArray := prog_1_method_35_code
def yX6_kinds : MethodName := ⟨RX6, "kinds", "(I)I"⟩
abbrev cX6_fitsSightings : ByteArray := prog_1_method_36_code
def yX6_fitsSightings : MethodName := ⟨RX6, "fitsSightings", "(I)Z"⟩
abbrev cX6_forget : ByteArray := prog_1_method_37_code
def yX6_forget : MethodName := ⟨RX6, "forget", "()I"⟩
abbrev cX6_likely : ByteArray := prog_1_method_38_code
def yX6_likely : MethodName := ⟨RX6, "likely", "(III)I"⟩
abbrev cX6_weightOf : ByteArray := prog_1_method_39_code
def yX6_weightOf : MethodName := ⟨RX6, "weightOf", "(II)I"⟩
abbrev cX6_comesTwisted : ByteArray := prog_1_method_40_code
def yX6_comesTwisted : MethodName := ⟨RX6, "comesTwisted", "(II)Z"⟩
abbrev cX6_commonPart : ByteArray := prog_1_method_41_code
def yX6_commonPart : MethodName := ⟨RX6, "commonPart", "(II)I"⟩
abbrev cX6_century : ByteArray := prog_1_method_42_code
def yX6_century : MethodName := ⟨RX6, "century", "(III)I"⟩
abbrev cX6_drawn : ByteArray := prog_1_method_43_code
def yX6_drawn : MethodName := ⟨RX6, "drawn", "(II)I"⟩
abbrev cX6_actByDraw : ByteArray := prog_1_method_44_code
def yX6_actByDraw : MethodName := ⟨RX6, "actByDraw", "(I)V"⟩
abbrev cX6_layOrClose : ByteArray := prog_1_method_45_code
def yX6_layOrClose : MethodName := ⟨RX6, "layOrClose", "(II)V"⟩
abbrev cX6_keep : ByteArray := prog_1_method_46_code
def yX6_keep : MethodName := ⟨RX6, "keep", "()I"⟩
abbrev cX6_back : ByteArray := prog_1_method_47_code
def yX6_back : MethodName := ⟨RX6, "back", "()I"⟩
abbrev cX6_count : ByteArray := prog_1_method_48_code
def yX6_count : MethodName := ⟨RX6, "count", "(I)I"⟩
abbrev cX6_hasBit : ByteArray := prog_1_method_49_code
def yX6_hasBit : MethodName := ⟨RX6, "hasBit", "(II)Z"⟩
def RX7 : String := "SignpostYardModel"
def TX7 : u_T := fun k => match k with
  | 0 => ("SignpostYardModel", "text", "[B", true)
  | 1 => ("SignpostYardModel", "typed", "I", false)
  | 2 => ("SignpostYardModel", "towns", "[I", true)
  | 3 => ("SignpostYardModel", "posts", "[I", true)
  | 4 => ("SignpostYardModel", "walkers", "[I", true)
  | 5 => ("SignpostYardModel", "kind", "[I", true)
  | 6 => ("SignpostYardModel", "goal", "[I", true)
  | 7 => ("SignpostYardModel", "draftMiles", "[I", true)
  | 8 => ("SignpostYardModel", "draftTown", "[I", true)
  | 9 => ("SignpostYardModel", "draftAge", "[I", true)
  | 10 => ("SignpostYardModel", "draftAt", "[I", true)
  | 11 => ("SignpostYardModel", "at", "I", false)
  | 12 => ("SignpostYardModel", "isWrong", "Z", false)
  | 13 => ("SignpostYardModel", "items", "I", false)
  | 14 => ("SignpostYardModel", "now", "[I", true)
  | 15 => ("SignpostYardModel", "before", "[I", true)
  | 16 => ("SignpostYardModel", "many", "I", false)
  | 17 => ("SignpostYardModel", "store", "[I", true)
  | 18 => ("SignpostYardModel", "kept", "I", false)
  | 19 => ("SignpostYardModel", "tried", "[I", true)
  | 20 => ("SignpostYardModel", "far", "[I", true)
  | 21 => ("SignpostYardModel", "twisted", "I", false)
  | 22 => ("SignpostYardModel", "extra", "I", false)
  | 23 => ("SignpostYardModel", "isAlone", "Z", false)
  | 24 => ("SignpostYardModel", "next", "[I", true)
  | 25 => ("SignpostYardModel", "taleFor", "[I", true)
  | 26 => ("SignpostYardModel", "taleTo", "[I", true)
  | 27 => ("SignpostYardModel", "taleMiles", "[I", true)
  | 28 => ("SignpostYardModel", "tales", "I", false)
  | 29 => ("SignpostYardModel", "sightOf", "[I", true)
  | 30 => ("SignpostYardModel", "sightFor", "[I", true)
  | 31 => ("SignpostYardModel", "sightTo", "[I", true)
  | _ => ("SignpostYardModel", "sights", "I", false)
def tyX7 : Nat → FieldType := fun k => match k with
  | 0 => .array .byte
  | 1 => .int
  | 2 => .array .int
  | 3 => .array .int
  | 4 => .array .int
  | 5 => .array .int
  | 6 => .array .int
  | 7 => .array .int
  | 8 => .array .int
  | 9 => .array .int
  | 10 => .array .int
  | 11 => .int
  | 12 => .boolean
  | 13 => .int
  | 14 => .array .int
  | 15 => .array .int
  | 16 => .int
  | 17 => .array .int
  | 18 => .int
  | 19 => .array .int
  | 20 => .array .int
  | 21 => .int
  | 22 => .int
  | 23 => .boolean
  | 24 => .array .int
  | 25 => .array .int
  | 26 => .array .int
  | 27 => .array .int
  | 28 => .int
  | 29 => .array .int
  | 30 => .array .int
  | 31 => .array .int
  | _ => .int
abbrev wsX70 : List Cond := u_ws RX7 TX7 33
theorem nmX7 : ∀ a, a < 33 → ∀ b, b < 33 → a ≠ b → (TX7 a).2.1 ≠ (TX7 b).2.1 := by decide +kernel
theorem tyX7_ok : ∀ k, k < 33 → parseFieldDescriptor (TX7 k).2.2.1 = some (tyX7 k) := by decide +kernel
abbrev cX7_init : ByteArray := prog_9_method_1_code
def yX7_init : MethodName := ⟨RX7, "<init>", "()V"⟩
abbrev cX7_in : ByteArray := prog_9_method_3_code
def yX7_in : MethodName := ⟨RX7, "in", "(III)Z"⟩
abbrev cX7_has : ByteArray := prog_9_method_4_code
def yX7_has : MethodName := ⟨RX7, "has", "(II)Z"⟩
abbrev cX7_bitsOf : ByteArray := prog_9_method_5_code
def yX7_bitsOf : MethodName := ⟨RX7, "bitsOf", "(I)I"⟩
abbrev cX7_write : ByteArray := prog_9_method_6_code
def yX7_write : MethodName := ⟨RX7, "write", "(I)I"⟩
abbrev cX7_wipe : ByteArray := prog_9_method_7_code
def yX7_wipe : MethodName := ⟨RX7, "wipe", "()I"⟩
abbrev cX7_here : ByteArray := prog_9_method_8_code
def yX7_here : MethodName := ⟨RX7, "here", "()I"⟩
abbrev cX7_isFigure : ByteArray := prog_9_method_9_code
def yX7_isFigure : MethodName := ⟨RX7, "isFigure", "()Z"⟩
abbrev cX7_due : ByteArray := prog_9_method_10_code
def yX7_due : MethodName := ⟨RX7, "due", "(I)V"⟩
abbrev cX7_number : ByteArray := prog_9_method_11_code
def yX7_number : MethodName := ⟨RX7, "number", "(II)I"⟩
abbrev cX7_readRoad : ByteArray := prog_9_method_12_code
def yX7_readRoad : MethodName := ⟨RX7, "readRoad", "()V"⟩
abbrev cX7_readPost : ByteArray := prog_9_method_13_code
def yX7_readPost : MethodName := ⟨RX7, "readPost", "()V"⟩
abbrev cX7_readWalker : ByteArray := prog_9_method_14_code
def yX7_readWalker : MethodName := ⟨RX7, "readWalker", "()V"⟩
abbrev cX7_readItem : ByteArray := prog_9_method_15_code
def yX7_readItem : MethodName := ⟨RX7, "readItem", "()V"⟩
abbrev cX7_begin : ByteArray := prog_9_method_16_code
def yX7_begin : MethodName := ⟨RX7, "begin", "()V"⟩
abbrev cX7_read : ByteArray := prog_9_method_17_code
def yX7_read : MethodName := ⟨RX7, "read", "()I"⟩
abbrev cX7_fault : ByteArray := prog_9_method_18_code
def yX7_fault : MethodName := ⟨RX7, "fault", "()I"⟩
abbrev cX7_tellRoad : ByteArray := prog_9_method_19_code
def yX7_tellRoad : MethodName := ⟨RX7, "tellRoad", "(III)V"⟩
abbrev cX7_tellPost : ByteArray := prog_9_method_20_code
def yX7_tellPost : MethodName := ⟨RX7, "tellPost", "(III)V"⟩
abbrev cX7_tellWalker : ByteArray := prog_9_method_21_code
def yX7_tellWalker : MethodName := ⟨RX7, "tellWalker", "(II)V"⟩
abbrev cX7_first : ByteArray := prog_9_method_22_code
def yX7_first : MethodName := ⟨RX7, "first", "()V"⟩
abbrev cX7_takeDraft : ByteArray := prog_9_method_23_code
def yX7_takeDraft : MethodName := ⟨RX7, "takeDraft", "()V"⟩
abbrev cX7_lay : ByteArray := prog_9_method_24_code
def yX7_lay : MethodName := ⟨RX7, "lay", "()I"⟩
abbrev cX7_take : ByteArray := prog_9_method_25_code
def yX7_take : MethodName := ⟨RX7, "take", "()V"⟩
abbrev cX7_isTown : ByteArray := prog_9_method_26_code
def yX7_isTown : MethodName := ⟨RX7, "isTown", "(I)Z"⟩
abbrev cX7_isPost : ByteArray := prog_9_method_27_code
def yX7_isPost : MethodName := ⟨RX7, "isPost", "(I)Z"⟩
abbrev cX7_isWalker : ByteArray := prog_9_method_28_code
def yX7_isWalker : MethodName := ⟨RX7, "isWalker", "(I)Z"⟩
abbrev cX7_measure : ByteArray := prog_9_method_29_code
def yX7_measure : MethodName := ⟨RX7, "measure", "([I)V"⟩
abbrev cX7_nextOn : ByteArray := prog_9_method_30_code
def yX7_nextOn : MethodName := ⟨RX7, "nextOn", "([III)I"⟩
abbrev cX7_paintOn : ByteArray := prog_9_method_31_code
def yX7_paintOn : MethodName := ⟨RX7, "paintOn", "([II)V"⟩
abbrev cX7_turned : ByteArray := prog_9_method_32_code
def yX7_turned : MethodName := ⟨RX7, "turned", "([III)I"⟩
abbrev cX7_points : ByteArray := prog_9_method_33_code
def yX7_points : MethodName := ⟨RX7, "points", "([IIII)I"⟩
abbrev cX7_postAt : ByteArray := prog_9_method_34_code
def yX7_postAt : MethodName := ⟨RX7, "postAt", "([II)I"⟩
abbrev cX7_goesTo : ByteArray := prog_9_method_35_code
def yX7_goesTo : MethodName := ⟨RX7, "goesTo", "([II)I"⟩
abbrev cX7_passHour : ByteArray := prog_9_method_36_code
def yX7_passHour : MethodName := ⟨RX7, "passHour", "([I)V"⟩
abbrev cX7_passYear : ByteArray := prog_9_method_37_code
def yX7_passYear : MethodName := ⟨RX7, "passYear", "([I)I"⟩
abbrev cX7_comeTo : ByteArray := prog_9_method_38_code
def yX7_comeTo : MethodName := ⟨RX7, "comeTo", "([I)I"⟩
abbrev cX7_comeBy : ByteArray := prog_9_method_39_code
def yX7_comeBy : MethodName := ⟨RX7, "comeBy", "()I"⟩
abbrev cX7_roadsOf : ByteArray := prog_9_method_40_code
def yX7_roadsOf : MethodName := ⟨RX7, "roadsOf", "([IZ)I"⟩
abbrev cX7_retiredOf : ByteArray := prog_9_method_41_code
def yX7_retiredOf : MethodName := ⟨RX7, "retiredOf", "([I)I"⟩
abbrev cX7_road : ByteArray := prog_9_method_42_code
def yX7_road : MethodName := ⟨RX7, "road", "(II)I"⟩
abbrev cX7_post : ByteArray := prog_9_method_43_code
def yX7_post : MethodName := ⟨RX7, "post", "(II)I"⟩
abbrev cX7_arm : ByteArray := prog_9_method_44_code
def yX7_arm : MethodName := ⟨RX7, "arm", "(III)I"⟩
abbrev cX7_walker : ByteArray := prog_9_method_45_code
def yX7_walker : MethodName := ⟨RX7, "walker", "(II)I"⟩
abbrev cX7_know : ByteArray := prog_9_method_46_code
def yX7_know : MethodName := ⟨RX7, "know", "()V"⟩
abbrev cX7_pass : ByteArray := prog_9_method_47_code
def yX7_pass : MethodName := ⟨RX7, "pass", "(I)I"⟩
abbrev cX7_year : ByteArray := prog_9_method_48_code
def yX7_year : MethodName := ⟨RX7, "year", "()I"⟩
abbrev cX7_layOn : ByteArray := prog_9_method_49_code
def yX7_layOn : MethodName := ⟨RX7, "layOn", "([IIII)V"⟩
abbrev cX7_lays : ByteArray := prog_9_method_50_code
def yX7_lays : MethodName := ⟨RX7, "lays", "(III)I"⟩
abbrev cX7_paint : ByteArray := prog_9_method_51_code
def yX7_paint : MethodName := ⟨RX7, "paint", "(I)I"⟩
abbrev cX7_move : ByteArray := prog_9_method_52_code
def yX7_move : MethodName := ⟨RX7, "move", "(II)I"⟩
abbrev cX7_retire : ByteArray := prog_9_method_53_code
def yX7_retire : MethodName := ⟨RX7, "retire", "(I)I"⟩
abbrev cX7_undo : ByteArray := prog_9_method_54_code
def yX7_undo : MethodName := ⟨RX7, "undo", "()I"⟩
abbrev cX7_comes : ByteArray := prog_9_method_55_code
def yX7_comes : MethodName := ⟨RX7, "comes", "(I)I"⟩
abbrev cX7_trail : ByteArray := prog_9_method_56_code
def yX7_trail : MethodName := ⟨RX7, "trail", "(II)I"⟩
abbrev cX7_lost : ByteArray := prog_9_method_57_code
def yX7_lost : MethodName := ⟨RX7, "lost", "()I"⟩
abbrev cX7_helps : ByteArray := prog_9_method_58_code
def yX7_helps : MethodName := ⟨RX7, "helps", "(I)I"⟩
abbrev cX7_paints : ByteArray := prog_9_method_59_code
def yX7_paints : MethodName := ⟨RX7, "paints", "(I)I"⟩
abbrev cX7_cover : ByteArray := prog_9_method_60_code
def yX7_cover : MethodName := ⟨RX7, "cover", "(I)I"⟩
abbrev cX7_far : ByteArray := prog_9_method_61_code
def yX7_far : MethodName := ⟨RX7, "far", "(II)I"⟩
abbrev cX7_told : ByteArray := prog_9_method_62_code
def yX7_told : MethodName := ⟨RX7, "told", "(III)I"⟩
abbrev cX7_stood : ByteArray := prog_9_method_63_code
def yX7_stood : MethodName := ⟨RX7, "stood", "()I"⟩
abbrev cX7_areAlike : ByteArray := prog_9_method_64_code
def yX7_areAlike : MethodName := ⟨RX7, "areAlike", "(III)Z"⟩
abbrev cX7_next : ByteArray := prog_9_method_65_code
def yX7_next : MethodName := ⟨RX7, "next", "()I"⟩
abbrev cX7_seen : ByteArray := prog_9_method_66_code
def yX7_seen : MethodName := ⟨RX7, "seen", "(III)I"⟩
abbrev cX7_kinds : ByteArray := prog_9_method_67_code
def yX7_kinds : MethodName := ⟨RX7, "kinds", "(I)I"⟩
abbrev cX7_forget : ByteArray := prog_9_method_68_code
def yX7_forget : MethodName := ⟨RX7, "forget", "()I"⟩
abbrev cX7_likely : ByteArray := prog_9_method_69_code
def yX7_likely : MethodName := ⟨RX7, "likely", "(III)I"⟩
abbrev cX7_turn : ByteArray := prog_9_method_70_code
def yX7_turn : MethodName := ⟨RX7, "turn", "(I)V"⟩
abbrev cX7_century : ByteArray := prog_9_method_71_code
def yX7_century : MethodName := ⟨RX7, "century", "(III)I"⟩
abbrev cX7_keep : ByteArray := prog_9_method_72_code
def yX7_keep : MethodName := ⟨RX7, "keep", "()I"⟩
abbrev cX7_back : ByteArray := prog_9_method_73_code
def yX7_back : MethodName := ⟨RX7, "back", "()I"⟩
abbrev cX7_count : ByteArray := prog_9_method_74_code
def yX7_count : MethodName := ⟨RX7, "count", "(I)I"⟩
def RJ6 : String := "java/lang/Integer"
def TJ6 : u_T := fun k => match k with
  | _ => ("", "", "", false)
def tyJ6 : Nat → FieldType := fun k => match k with
  | _ => .int
abbrev wsJ60 : List Cond := u_ws RJ6 TJ6 0
theorem nmJ6 : ∀ a, a < 0 → ∀ b, b < 0 → a ≠ b → (TJ6 a).2.1 ≠ (TJ6 b).2.1 := by decide +kernel
theorem tyJ6_ok : ∀ k, k < 0 → parseFieldDescriptor (TJ6 k).2.2.1 = some (tyJ6 k) := by decide +kernel
abbrev cJ6_bitCount_0f7a4 : ByteArray := prog_10_method_49_code
def yJ6_bitCount_0f7a4 : MethodName := ⟨RJ6, "bitCount", "(I)I"⟩
def RJ9 : String := "java/lang/Math"
def TJ9 : u_T := fun k => match k with
  | _ => ("", "", "", false)
def tyJ9 : Nat → FieldType := fun k => match k with
  | _ => .int
abbrev wsJ90 : List Cond := u_ws RJ9 TJ9 0
theorem nmJ9 : ∀ a, a < 0 → ∀ b, b < 0 → a ≠ b → (TJ9 a).2.1 ≠ (TJ9 b).2.1 := by decide +kernel
theorem tyJ9_ok : ∀ k, k < 0 → parseFieldDescriptor (TJ9 k).2.2.1 = some (tyJ9 k) := by decide +kernel
abbrev cJ9_max_7cf53 : ByteArray := prog_11_method_65_code
def yJ9_max_7cf53 : MethodName := ⟨RJ9, "max", "(II)I"⟩
abbrev cJ9_min_7cf53 : ByteArray := prog_11_method_69_code
def yJ9_min_7cf53 : MethodName := ⟨RJ9, "min", "(II)I"⟩
def RJ0 : String := "java/lang/String"
def TJ0 : u_T := fun k => match k with
  | _ => ("", "", "", false)
def tyJ0 : Nat → FieldType := fun k => match k with
  | _ => .int
abbrev wsJ00 : List Cond := u_ws RJ0 TJ0 0
theorem nmJ0 : ∀ a, a < 0 → ∀ b, b < 0 → a ≠ b → (TJ0 a).2.1 ≠ (TJ0 b).2.1 := by decide +kernel
theorem tyJ0_ok : ∀ k, k < 0 → parseFieldDescriptor (TJ0 k).2.2.1 = some (tyJ0 k) := by decide +kernel
abbrev cJ0_length_8abf5 : ByteArray := prog_12_method_54_code
def yJ0_length_8abf5 : MethodName := ⟨RJ0, "length", "()I"⟩
abbrev cJ0_charAt_5068e : ByteArray := prog_12_method_56_code
def yJ0_charAt_5068e : MethodName := ⟨RJ0, "charAt", "(I)C"⟩
abbrev cJ0_coder_7d493 : ByteArray := prog_12_method_152_code
def yJ0_coder_7d493 : MethodName := ⟨RJ0, "coder", "()B"⟩
abbrev cJ0_isLatin1_aae02 : ByteArray := prog_12_method_154_code
def yJ0_isLatin1_aae02 : MethodName := ⟨RJ0, "isLatin1", "()Z"⟩
abbrev cJ0_checkIndex_df160 : ByteArray := prog_12_method_155_code
def yJ0_checkIndex_df160 : MethodName := ⟨RJ0, "checkIndex", "(II)V"⟩
def RJ1 : String := "java/lang/StringLatin1"
def TJ1 : u_T := fun k => match k with
  | _ => ("", "", "", false)
def tyJ1 : Nat → FieldType := fun k => match k with
  | _ => .int
abbrev wsJ10 : List Cond := u_ws RJ1 TJ1 0
theorem nmJ1 : ∀ a, a < 0 → ∀ b, b < 0 → a ≠ b → (TJ1 a).2.1 ≠ (TJ1 b).2.1 := by decide +kernel
theorem tyJ1_ok : ∀ k, k < 0 → parseFieldDescriptor (TJ1 k).2.2.1 = some (tyJ1 k) := by decide +kernel
abbrev cJ1_charAt_3b067 : ByteArray := prog_13_method_2_code
def yJ1_charAt_3b067 : MethodName := ⟨RJ1, "charAt", "([BI)C"⟩
def RJ2 : String := "java/lang/StringUTF16"
def TJ2 : u_T := fun k => match k with
  | _ => ("", "", "", false)
def tyJ2 : Nat → FieldType := fun k => match k with
  | _ => .int
abbrev wsJ20 : List Cond := u_ws RJ2 TJ2 0
theorem nmJ2 : ∀ a, a < 0 → ∀ b, b < 0 → a ≠ b → (TJ2 a).2.1 ≠ (TJ2 b).2.1 := by decide +kernel
theorem tyJ2_ok : ∀ k, k < 0 → parseFieldDescriptor (TJ2 k).2.2.1 = some (tyJ2 k) := by decide +kernel
abbrev cJ2_getChar_3b067 : ByteArray := prog_14_method_5_code
def yJ2_getChar_3b067 : MethodName := ⟨RJ2, "getChar", "([BI)C"⟩
abbrev cJ2_length_9d52b : ByteArray := prog_14_method_6_code
def yJ2_length_9d52b : MethodName := ⟨RJ2, "length", "([B)I"⟩
abbrev cJ2_charAt_3b067 : ByteArray := prog_14_method_83_code
def yJ2_charAt_3b067 : MethodName := ⟨RJ2, "charAt", "([BI)C"⟩
abbrev cJ2_checkIndex_2214a : ByteArray := prog_14_method_91_code
def yJ2_checkIndex_2214a : MethodName := ⟨RJ2, "checkIndex", "(I[B)V"⟩
def RJ10 : String := "java/lang/System"
def TJ10 : u_T := fun k => match k with
  | _ => ("", "", "", false)
def tyJ10 : Nat → FieldType := fun k => match k with
  | _ => .int
abbrev wsJ100 : List Cond := u_ws RJ10 TJ10 0
theorem nmJ10 : ∀ a, a < 0 → ∀ b, b < 0 → a ≠ b → (TJ10 a).2.1 ≠ (TJ10 b).2.1 := by decide +kernel
theorem tyJ10_ok : ∀ k, k < 0 → parseFieldDescriptor (TJ10 k).2.2.1 = some (tyJ10 k) := by decide +kernel
def RJ3 : String := "jdk/internal/util/Preconditions"
def TJ3 : u_T := fun k => match k with
  | _ => ("", "", "", false)
def tyJ3 : Nat → FieldType := fun k => match k with
  | _ => .int
abbrev wsJ30 : List Cond := u_ws RJ3 TJ3 0
theorem nmJ3 : ∀ a, a < 0 → ∀ b, b < 0 → a ≠ b → (TJ3 a).2.1 ≠ (TJ3 b).2.1 := by decide +kernel
theorem tyJ3_ok : ∀ k, k < 0 → parseFieldDescriptor (TJ3 k).2.2.1 = some (tyJ3 k) := by decide +kernel
abbrev cJ3_checkIndex_8e157 : ByteArray := prog_16_method_11_code
def yJ3_checkIndex_8e157 : MethodName := ⟨RJ3, "checkIndex", "(IILjava/util/function/BiFunction;)I"⟩
def RL : String := "SignpostYardLaw"
abbrev cL_law : ByteArray := code
def yL_law : MethodName := ⟨RL, "law", "([I)Z"⟩
theorem dX0_init_0 : decode cX0_init 0 = .ok (.aload_n 0, 1) := by decide +kernel
theorem dX0_init_1 : decode cX0_init 1 = .ok (.invokespecial 3, 3) := by decide +kernel
theorem dX0_init_4 : decode cX0_init 4 = .ok (.aload_n 0, 1) := by decide +kernel
theorem dX0_init_5 : decode cX0_init 5 = .ok (.iload_n 2, 1) := by decide +kernel
theorem dX0_init_6 : decode cX0_init 6 = .ok (.putfield 9, 3) := by decide +kernel
theorem dX0_init_9 : decode cX0_init 9 = .ok (.aload_n 0, 1) := by decide +kernel
theorem dX0_init_10 : decode cX0_init 10 = .ok (.iconst 1, 1) := by decide +kernel
theorem dX0_init_11 : decode cX0_init 11 = .ok (.iload_n 1, 1) := by decide +kernel
theorem dX0_init_12 : decode cX0_init 12 = .ok (.iload_n 2, 1) := by decide +kernel
theorem dX0_init_13 : decode cX0_init 13 = .ok (.imul, 1) := by decide +kernel
theorem dX0_init_14 : decode cX0_init 14 = .ok (.sipush 200, 3) := by decide +kernel
theorem dX0_init_17 : decode cX0_init 17 = .ok (.invokestatic 15, 3) := by decide +kernel
theorem dX0_init_20 : decode cX0_init 20 = .ok (.invokestatic 21, 3) := by decide +kernel
theorem dX0_init_23 : decode cX0_init 23 = .ok (.newarray .int, 2) := by decide +kernel
theorem dX0_init_25 : decode cX0_init 25 = .ok (.putfield 24, 3) := by decide +kernel
theorem dX0_init_28 : decode cX0_init 28 = .ok (.return_, 1) := by decide +kernel
theorem dX0_at_0 : decode cX0_at 0 = .ok (.iload_n 1, 1) := by decide +kernel
theorem dX0_at_1 : decode cX0_at 1 = .ok (.aload_n 0, 1) := by decide +kernel
theorem dX0_at_2 : decode cX0_at 2 = .ok (.getfield 9, 3) := by decide +kernel
theorem dX0_at_5 : decode cX0_at 5 = .ok (.imul, 1) := by decide +kernel
theorem dX0_at_6 : decode cX0_at 6 = .ok (.iload_n 2, 1) := by decide +kernel
theorem dX0_at_7 : decode cX0_at 7 = .ok (.iadd, 1) := by decide +kernel
theorem dX0_at_8 : decode cX0_at 8 = .ok (.istore_n 3, 1) := by decide +kernel
theorem dX0_at_9 : decode cX0_at 9 = .ok (.iload_n 2, 1) := by decide +kernel
theorem dX0_at_10 : decode cX0_at 10 = .ok (.ifCond .lt 28, 3) := by decide +kernel
theorem dX0_at_13 : decode cX0_at 13 = .ok (.iload_n 2, 1) := by decide +kernel
theorem dX0_at_14 : decode cX0_at 14 = .ok (.aload_n 0, 1) := by decide +kernel
theorem dX0_at_15 : decode cX0_at 15 = .ok (.getfield 9, 3) := by decide +kernel
theorem dX0_at_18 : decode cX0_at 18 = .ok (.if_icmp .ge 20, 3) := by decide +kernel
theorem dX0_at_21 : decode cX0_at 21 = .ok (.iload_n 3, 1) := by decide +kernel
theorem dX0_at_22 : decode cX0_at 22 = .ok (.ifCond .lt 16, 3) := by decide +kernel
theorem dX0_at_25 : decode cX0_at 25 = .ok (.iload_n 3, 1) := by decide +kernel
theorem dX0_at_26 : decode cX0_at 26 = .ok (.aload_n 0, 1) := by decide +kernel
theorem dX0_at_27 : decode cX0_at 27 = .ok (.getfield 24, 3) := by decide +kernel
theorem dX0_at_30 : decode cX0_at 30 = .ok (.arraylength, 1) := by decide +kernel
theorem dX0_at_31 : decode cX0_at 31 = .ok (.if_icmp .ge 7, 3) := by decide +kernel
theorem dX0_at_34 : decode cX0_at 34 = .ok (.iconst 1, 1) := by decide +kernel
theorem dX0_at_35 : decode cX0_at 35 = .ok (.goto 4, 3) := by decide +kernel
theorem dX0_at_38 : decode cX0_at 38 = .ok (.iconst 0, 1) := by decide +kernel
theorem dX0_at_39 : decode cX0_at 39 = .ok (.istore 4, 2) := by decide +kernel
theorem dX0_at_41 : decode cX0_at 41 = .ok (.iload 4, 2) := by decide +kernel
theorem dX0_at_43 : decode cX0_at 43 = .ok (.ifCond .eq 12, 3) := by decide +kernel
theorem dX0_at_46 : decode cX0_at 46 = .ok (.aload_n 0, 1) := by decide +kernel
theorem dX0_at_47 : decode cX0_at 47 = .ok (.getfield 24, 3) := by decide +kernel
theorem dX0_at_50 : decode cX0_at 50 = .ok (.iload_n 3, 1) := by decide +kernel
theorem dX0_at_51 : decode cX0_at 51 = .ok (.iaload, 1) := by decide +kernel
theorem dX0_at_52 : decode cX0_at 52 = .ok (.goto 5, 3) := by decide +kernel
theorem dX0_at_55 : decode cX0_at 55 = .ok (.bipush (-4), 2) := by decide +kernel
theorem dX0_at_57 : decode cX0_at 57 = .ok (.ireturn, 1) := by decide +kernel
theorem dX0_put_0 : decode cX0_put 0 = .ok (.iload_n 1, 1) := by decide +kernel
theorem dX0_put_1 : decode cX0_put 1 = .ok (.aload_n 0, 1) := by decide +kernel
theorem dX0_put_2 : decode cX0_put 2 = .ok (.getfield 9, 3) := by decide +kernel
theorem dX0_put_5 : decode cX0_put 5 = .ok (.imul, 1) := by decide +kernel
theorem dX0_put_6 : decode cX0_put 6 = .ok (.iload_n 2, 1) := by decide +kernel
theorem dX0_put_7 : decode cX0_put 7 = .ok (.iadd, 1) := by decide +kernel
theorem dX0_put_8 : decode cX0_put 8 = .ok (.istore 4, 2) := by decide +kernel
theorem dX0_put_10 : decode cX0_put 10 = .ok (.iload_n 2, 1) := by decide +kernel
theorem dX0_put_11 : decode cX0_put 11 = .ok (.ifCond .lt 34, 3) := by decide +kernel
theorem dX0_put_14 : decode cX0_put 14 = .ok (.iload_n 2, 1) := by decide +kernel
theorem dX0_put_15 : decode cX0_put 15 = .ok (.aload_n 0, 1) := by decide +kernel
theorem dX0_put_16 : decode cX0_put 16 = .ok (.getfield 9, 3) := by decide +kernel
theorem dX0_put_19 : decode cX0_put 19 = .ok (.if_icmp .ge 26, 3) := by decide +kernel
theorem dX0_put_22 : decode cX0_put 22 = .ok (.iload 4, 2) := by decide +kernel
theorem dX0_put_24 : decode cX0_put 24 = .ok (.ifCond .lt 21, 3) := by decide +kernel
theorem dX0_put_27 : decode cX0_put 27 = .ok (.iload 4, 2) := by decide +kernel
theorem dX0_put_29 : decode cX0_put 29 = .ok (.aload_n 0, 1) := by decide +kernel
theorem dX0_put_30 : decode cX0_put 30 = .ok (.getfield 24, 3) := by decide +kernel
theorem dX0_put_33 : decode cX0_put 33 = .ok (.arraylength, 1) := by decide +kernel
theorem dX0_put_34 : decode cX0_put 34 = .ok (.if_icmp .ge 11, 3) := by decide +kernel
theorem dX0_put_37 : decode cX0_put 37 = .ok (.aload_n 0, 1) := by decide +kernel
theorem dX0_put_38 : decode cX0_put 38 = .ok (.getfield 24, 3) := by decide +kernel
theorem dX0_put_41 : decode cX0_put 41 = .ok (.iload 4, 2) := by decide +kernel
theorem dX0_put_43 : decode cX0_put 43 = .ok (.iload_n 3, 1) := by decide +kernel
theorem dX0_put_44 : decode cX0_put 44 = .ok (.iastore, 1) := by decide +kernel
theorem dX0_put_45 : decode cX0_put 45 = .ok (.return_, 1) := by decide +kernel
theorem dX0_fill_0 : decode cX0_fill 0 = .ok (.iconst 0, 1) := by decide +kernel
theorem dX0_fill_1 : decode cX0_fill 1 = .ok (.istore_n 2, 1) := by decide +kernel
theorem dX0_fill_2 : decode cX0_fill 2 = .ok (.iload_n 2, 1) := by decide +kernel
theorem dX0_fill_3 : decode cX0_fill 3 = .ok (.aload_n 0, 1) := by decide +kernel
theorem dX0_fill_4 : decode cX0_fill 4 = .ok (.getfield 24, 3) := by decide +kernel
theorem dX0_fill_7 : decode cX0_fill 7 = .ok (.arraylength, 1) := by decide +kernel
theorem dX0_fill_8 : decode cX0_fill 8 = .ok (.if_icmp .ge 16, 3) := by decide +kernel
theorem dX0_fill_11 : decode cX0_fill 11 = .ok (.aload_n 0, 1) := by decide +kernel
theorem dX0_fill_12 : decode cX0_fill 12 = .ok (.getfield 24, 3) := by decide +kernel
theorem dX0_fill_15 : decode cX0_fill 15 = .ok (.iload_n 2, 1) := by decide +kernel
theorem dX0_fill_16 : decode cX0_fill 16 = .ok (.iload_n 1, 1) := by decide +kernel
theorem dX0_fill_17 : decode cX0_fill 17 = .ok (.iastore, 1) := by decide +kernel
theorem dX0_fill_18 : decode cX0_fill 18 = .ok (.iinc 2 1, 3) := by decide +kernel
theorem dX0_fill_21 : decode cX0_fill 21 = .ok (.goto (-19), 3) := by decide +kernel
theorem dX0_fill_24 : decode cX0_fill 24 = .ok (.return_, 1) := by decide +kernel
theorem dX0_become_0 : decode cX0_become 0 = .ok (.aload_n 1, 1) := by decide +kernel
theorem dX0_become_1 : decode cX0_become 1 = .ok (.getfield 24, 3) := by decide +kernel
theorem dX0_become_4 : decode cX0_become 4 = .ok (.iconst 0, 1) := by decide +kernel
theorem dX0_become_5 : decode cX0_become 5 = .ok (.aload_n 0, 1) := by decide +kernel
theorem dX0_become_6 : decode cX0_become 6 = .ok (.getfield 24, 3) := by decide +kernel
theorem dX0_become_9 : decode cX0_become 9 = .ok (.iconst 0, 1) := by decide +kernel
theorem dX0_become_10 : decode cX0_become 10 = .ok (.aload_n 0, 1) := by decide +kernel
theorem dX0_become_11 : decode cX0_become 11 = .ok (.getfield 24, 3) := by decide +kernel
theorem dX0_become_14 : decode cX0_become 14 = .ok (.arraylength, 1) := by decide +kernel
theorem dX0_become_15 : decode cX0_become 15 = .ok (.aload_n 1, 1) := by decide +kernel
theorem dX0_become_16 : decode cX0_become 16 = .ok (.getfield 24, 3) := by decide +kernel
theorem dX0_become_19 : decode cX0_become 19 = .ok (.arraylength, 1) := by decide +kernel
theorem dX0_become_20 : decode cX0_become 20 = .ok (.invokestatic 15, 3) := by decide +kernel
theorem dX0_become_23 : decode cX0_become 23 = .ok (.invokestatic 28, 3) := by decide +kernel
theorem dX0_become_26 : decode cX0_become 26 = .ok (.return_, 1) := by decide +kernel
theorem dX1_init_0 : decode cX1_init 0 = .ok (.aload_n 0, 1) := by decide +kernel
theorem dX1_init_1 : decode cX1_init 1 = .ok (.invokespecial 3, 3) := by decide +kernel
theorem dX1_init_4 : decode cX1_init 4 = .ok (.aload_n 0, 1) := by decide +kernel
theorem dX1_init_5 : decode cX1_init 5 = .ok (.new 9, 3) := by decide +kernel
theorem dX1_init_8 : decode cX1_init 8 = .ok (.dup, 1) := by decide +kernel
theorem dX1_init_9 : decode cX1_init 9 = .ok (.iconst 1, 1) := by decide +kernel
theorem dX1_init_10 : decode cX1_init 10 = .ok (.sipush 200, 3) := by decide +kernel
theorem dX1_init_13 : decode cX1_init 13 = .ok (.invokespecial 11, 3) := by decide +kernel
theorem dX1_init_16 : decode cX1_init 16 = .ok (.putfield 14, 3) := by decide +kernel
theorem dX1_init_19 : decode cX1_init 19 = .ok (.aload_n 0, 1) := by decide +kernel
theorem dX1_init_20 : decode cX1_init 20 = .ok (.new 9, 3) := by decide +kernel
theorem dX1_init_23 : decode cX1_init 23 = .ok (.dup, 1) := by decide +kernel
theorem dX1_init_24 : decode cX1_init 24 = .ok (.iconst 1, 1) := by decide +kernel
theorem dX1_init_25 : decode cX1_init 25 = .ok (.iconst 3, 1) := by decide +kernel
theorem dX1_init_26 : decode cX1_init 26 = .ok (.invokespecial 11, 3) := by decide +kernel
theorem dX1_init_29 : decode cX1_init 29 = .ok (.putfield 20, 3) := by decide +kernel
theorem dX1_init_32 : decode cX1_init 32 = .ok (.return_, 1) := by decide +kernel
theorem dX1_length_0 : decode cX1_length 0 = .ok (.aload_n 0, 1) := by decide +kernel
theorem dX1_length_1 : decode cX1_length 1 = .ok (.getfield 23, 3) := by decide +kernel
theorem dX1_length_4 : decode cX1_length 4 = .ok (.ireturn, 1) := by decide +kernel
theorem dX1_append_0 : decode cX1_append 0 = .ok (.aload_n 0, 1) := by decide +kernel
theorem dX1_append_1 : decode cX1_append 1 = .ok (.getfield 23, 3) := by decide +kernel
theorem dX1_append_4 : decode cX1_append 4 = .ok (.sipush 200, 3) := by decide +kernel
theorem dX1_append_7 : decode cX1_append 7 = .ok (.if_icmp .lt 6, 3) := by decide +kernel
theorem dX1_append_10 : decode cX1_append 10 = .ok (.bipush (-3), 2) := by decide +kernel
theorem dX1_append_12 : decode cX1_append 12 = .ok (.ireturn, 1) := by decide +kernel
theorem dX1_append_13 : decode cX1_append 13 = .ok (.aload_n 0, 1) := by decide +kernel
theorem dX1_append_14 : decode cX1_append 14 = .ok (.getfield 14, 3) := by decide +kernel
theorem dX1_append_17 : decode cX1_append 17 = .ok (.iconst 0, 1) := by decide +kernel
theorem dX1_append_18 : decode cX1_append 18 = .ok (.aload_n 0, 1) := by decide +kernel
theorem dX1_append_19 : decode cX1_append 19 = .ok (.getfield 23, 3) := by decide +kernel
theorem dX1_append_22 : decode cX1_append 22 = .ok (.iload_n 1, 1) := by decide +kernel
theorem dX1_append_23 : decode cX1_append 23 = .ok (.invokevirtual 27, 3) := by decide +kernel
theorem dX1_append_26 : decode cX1_append 26 = .ok (.aload_n 0, 1) := by decide +kernel
theorem dX1_append_27 : decode cX1_append 27 = .ok (.dup, 1) := by decide +kernel
theorem dX1_append_28 : decode cX1_append 28 = .ok (.getfield 23, 3) := by decide +kernel
theorem dX1_append_31 : decode cX1_append 31 = .ok (.iconst 1, 1) := by decide +kernel
theorem dX1_append_32 : decode cX1_append 32 = .ok (.iadd, 1) := by decide +kernel
theorem dX1_append_33 : decode cX1_append 33 = .ok (.putfield 23, 3) := by decide +kernel
theorem dX1_append_36 : decode cX1_append 36 = .ok (.aload_n 0, 1) := by decide +kernel
theorem dX1_append_37 : decode cX1_append 37 = .ok (.getfield 23, 3) := by decide +kernel
theorem dX1_append_40 : decode cX1_append 40 = .ok (.ireturn, 1) := by decide +kernel
theorem dX1_empty_0 : decode cX1_empty 0 = .ok (.aload_n 0, 1) := by decide +kernel
theorem dX1_empty_1 : decode cX1_empty 1 = .ok (.getfield 23, 3) := by decide +kernel
theorem dX1_empty_4 : decode cX1_empty 4 = .ok (.istore_n 1, 1) := by decide +kernel
theorem dX1_empty_5 : decode cX1_empty 5 = .ok (.aload_n 0, 1) := by decide +kernel
theorem dX1_empty_6 : decode cX1_empty 6 = .ok (.iconst 0, 1) := by decide +kernel
theorem dX1_empty_7 : decode cX1_empty 7 = .ok (.putfield 23, 3) := by decide +kernel
theorem dX1_empty_10 : decode cX1_empty 10 = .ok (.iload_n 1, 1) := by decide +kernel
theorem dX1_empty_11 : decode cX1_empty 11 = .ok (.ireturn, 1) := by decide +kernel
theorem dX1_readInto_0 : decode cX1_readInto 0 = .ok (.aload_n 1, 1) := by decide +kernel
theorem dX1_readInto_1 : decode cX1_readInto 1 = .ok (.invokevirtual 31, 3) := by decide +kernel
theorem dX1_readInto_4 : decode cX1_readInto 4 = .ok (.aload_n 0, 1) := by decide +kernel
theorem dX1_readInto_5 : decode cX1_readInto 5 = .ok (.iconst 0, 1) := by decide +kernel
theorem dX1_readInto_6 : decode cX1_readInto 6 = .ok (.putfield 36, 3) := by decide +kernel
theorem dX1_readInto_9 : decode cX1_readInto 9 = .ok (.iconst 0, 1) := by decide +kernel
theorem dX1_readInto_10 : decode cX1_readInto 10 = .ok (.istore_n 2, 1) := by decide +kernel
theorem dX1_readInto_11 : decode cX1_readInto 11 = .ok (.iload_n 2, 1) := by decide +kernel
theorem dX1_readInto_12 : decode cX1_readInto 12 = .ok (.sipush 200, 3) := by decide +kernel
theorem dX1_readInto_15 : decode cX1_readInto 15 = .ok (.if_icmp .ge 44, 3) := by decide +kernel
theorem dX1_readInto_18 : decode cX1_readInto 18 = .ok (.aload_n 0, 1) := by decide +kernel
theorem dX1_readInto_19 : decode cX1_readInto 19 = .ok (.getfield 36, 3) := by decide +kernel
theorem dX1_readInto_22 : decode cX1_readInto 22 = .ok (.aload_n 0, 1) := by decide +kernel
theorem dX1_readInto_23 : decode cX1_readInto 23 = .ok (.getfield 23, 3) := by decide +kernel
theorem dX1_readInto_26 : decode cX1_readInto 26 = .ok (.if_icmp .ge 33, 3) := by decide +kernel
theorem dX1_readInto_29 : decode cX1_readInto 29 = .ok (.aload_n 0, 1) := by decide +kernel
theorem dX1_readInto_30 : decode cX1_readInto 30 = .ok (.getfield 36, 3) := by decide +kernel
theorem dX1_readInto_33 : decode cX1_readInto 33 = .ok (.istore_n 3, 1) := by decide +kernel
theorem dX1_readInto_34 : decode cX1_readInto 34 = .ok (.aload_n 0, 1) := by decide +kernel
theorem dX1_readInto_35 : decode cX1_readInto 35 = .ok (.aload_n 1, 1) := by decide +kernel
theorem dX1_readInto_36 : decode cX1_readInto 36 = .ok (.iload_n 2, 1) := by decide +kernel
theorem dX1_readInto_37 : decode cX1_readInto 37 = .ok (.ifCond .ne 7, 3) := by decide +kernel
theorem dX1_readInto_40 : decode cX1_readInto 40 = .ok (.iconst 1, 1) := by decide +kernel
theorem dX1_readInto_41 : decode cX1_readInto 41 = .ok (.goto 4, 3) := by decide +kernel
theorem dX1_readInto_44 : decode cX1_readInto 44 = .ok (.iconst 0, 1) := by decide +kernel
theorem dX1_readInto_45 : decode cX1_readInto 45 = .ok (.invokevirtual 39, 3) := by decide +kernel
theorem dX1_readInto_48 : decode cX1_readInto 48 = .ok (.ifCond .ne 5, 3) := by decide +kernel
theorem dX1_readInto_51 : decode cX1_readInto 51 = .ok (.iload_n 3, 1) := by decide +kernel
theorem dX1_readInto_52 : decode cX1_readInto 52 = .ok (.ireturn, 1) := by decide +kernel
theorem dX1_readInto_53 : decode cX1_readInto 53 = .ok (.iinc 2 1, 3) := by decide +kernel
theorem dX1_readInto_56 : decode cX1_readInto 56 = .ok (.goto (-45), 3) := by decide +kernel
theorem dX1_readInto_59 : decode cX1_readInto 59 = .ok (.bipush (-4), 2) := by decide +kernel
theorem dX1_readInto_61 : decode cX1_readInto 61 = .ok (.ireturn, 1) := by decide +kernel
theorem dX1_readItem_0 : decode cX1_readItem 0 = .ok (.aload_n 0, 1) := by decide +kernel
theorem dX1_readItem_1 : decode cX1_readItem 1 = .ok (.invokevirtual 43, 3) := by decide +kernel
theorem dX1_readItem_4 : decode cX1_readItem 4 = .ok (.istore_n 3, 1) := by decide +kernel
theorem dX1_readItem_5 : decode cX1_readItem 5 = .ok (.aload_n 0, 1) := by decide +kernel
theorem dX1_readItem_6 : decode cX1_readItem 6 = .ok (.dup, 1) := by decide +kernel
theorem dX1_readItem_7 : decode cX1_readItem 7 = .ok (.getfield 36, 3) := by decide +kernel
theorem dX1_readItem_10 : decode cX1_readItem 10 = .ok (.iconst 1, 1) := by decide +kernel
theorem dX1_readItem_11 : decode cX1_readItem 11 = .ok (.iadd, 1) := by decide +kernel
theorem dX1_readItem_12 : decode cX1_readItem 12 = .ok (.putfield 36, 3) := by decide +kernel
theorem dX1_readItem_15 : decode cX1_readItem 15 = .ok (.aload_n 0, 1) := by decide +kernel
theorem dX1_readItem_16 : decode cX1_readItem 16 = .ok (.iload_n 3, 1) := by decide +kernel
theorem dX1_readItem_17 : decode cX1_readItem 17 = .ok (.invokestatic 47, 3) := by decide +kernel
theorem dX1_readItem_20 : decode cX1_readItem 20 = .ok (.invokevirtual 51, 3) := by decide +kernel
theorem dX1_readItem_23 : decode cX1_readItem 23 = .ok (.ifCond .ne 5, 3) := by decide +kernel
theorem dX1_readItem_26 : decode cX1_readItem 26 = .ok (.iconst 0, 1) := by decide +kernel
theorem dX1_readItem_27 : decode cX1_readItem 27 = .ok (.ireturn, 1) := by decide +kernel
theorem dX1_readItem_28 : decode cX1_readItem 28 = .ok (.aload_n 0, 1) := by decide +kernel
theorem dX1_readItem_29 : decode cX1_readItem 29 = .ok (.getfield 20, 3) := by decide +kernel
theorem dX1_readItem_32 : decode cX1_readItem 32 = .ok (.iconst 0, 1) := by decide +kernel
theorem dX1_readItem_33 : decode cX1_readItem 33 = .ok (.iconst 0, 1) := by decide +kernel
theorem dX1_readItem_34 : decode cX1_readItem 34 = .ok (.invokevirtual 55, 3) := by decide +kernel
theorem dX1_readItem_37 : decode cX1_readItem 37 = .ok (.istore 4, 2) := by decide +kernel
theorem dX1_readItem_39 : decode cX1_readItem 39 = .ok (.aload_n 0, 1) := by decide +kernel
theorem dX1_readItem_40 : decode cX1_readItem 40 = .ok (.getfield 20, 3) := by decide +kernel
theorem dX1_readItem_43 : decode cX1_readItem 43 = .ok (.iconst 0, 1) := by decide +kernel
theorem dX1_readItem_44 : decode cX1_readItem 44 = .ok (.iconst 1, 1) := by decide +kernel
theorem dX1_readItem_45 : decode cX1_readItem 45 = .ok (.invokevirtual 55, 3) := by decide +kernel
theorem dX1_readItem_48 : decode cX1_readItem 48 = .ok (.istore 5, 2) := by decide +kernel
theorem dX1_readItem_50 : decode cX1_readItem 50 = .ok (.aload_n 0, 1) := by decide +kernel
theorem dX1_readItem_51 : decode cX1_readItem 51 = .ok (.getfield 20, 3) := by decide +kernel
theorem dX1_readItem_54 : decode cX1_readItem 54 = .ok (.iconst 0, 1) := by decide +kernel
theorem dX1_readItem_55 : decode cX1_readItem 55 = .ok (.iconst 2, 1) := by decide +kernel
theorem dX1_readItem_56 : decode cX1_readItem 56 = .ok (.invokevirtual 55, 3) := by decide +kernel
theorem dX1_readItem_59 : decode cX1_readItem 59 = .ok (.istore 6, 2) := by decide +kernel
theorem dX1_readItem_61 : decode cX1_readItem 61 = .ok (.iload_n 3, 1) := by decide +kernel
theorem dX1_readItem_62 : decode cX1_readItem 62 = .ok (.tableswitch 104 110 119 #[54, 104, 84, 104, 73, 104, 104, 104, 104, 95], 54) := by decide +kernel
theorem dX1_readItem_116 : decode cX1_readItem 116 = .ok (.iload_n 2, 1) := by decide +kernel
theorem dX1_readItem_117 : decode cX1_readItem 117 = .ok (.ifCond .eq 16, 3) := by decide +kernel
theorem dX1_readItem_120 : decode cX1_readItem 120 = .ok (.aload_n 1, 1) := by decide +kernel
theorem dX1_readItem_121 : decode cX1_readItem 121 = .ok (.iload 4, 2) := by decide +kernel
theorem dX1_readItem_123 : decode cX1_readItem 123 = .ok (.invokevirtual 59, 3) := by decide +kernel
theorem dX1_readItem_126 : decode cX1_readItem 126 = .ok (.ifCond .eq 7, 3) := by decide +kernel
theorem dX1_readItem_129 : decode cX1_readItem 129 = .ok (.iconst 1, 1) := by decide +kernel
theorem dX1_readItem_130 : decode cX1_readItem 130 = .ok (.goto 4, 3) := by decide +kernel
theorem dX1_readItem_133 : decode cX1_readItem 133 = .ok (.iconst 0, 1) := by decide +kernel
theorem dX1_readItem_134 : decode cX1_readItem 134 = .ok (.ireturn, 1) := by decide +kernel
theorem dX1_readItem_135 : decode cX1_readItem 135 = .ok (.aload_n 1, 1) := by decide +kernel
theorem dX1_readItem_136 : decode cX1_readItem 136 = .ok (.iload 4, 2) := by decide +kernel
theorem dX1_readItem_138 : decode cX1_readItem 138 = .ok (.iload 5, 2) := by decide +kernel
theorem dX1_readItem_140 : decode cX1_readItem 140 = .ok (.iload 6, 2) := by decide +kernel
theorem dX1_readItem_142 : decode cX1_readItem 142 = .ok (.invokevirtual 62, 3) := by decide +kernel
theorem dX1_readItem_145 : decode cX1_readItem 145 = .ok (.ireturn, 1) := by decide +kernel
theorem dX1_readItem_146 : decode cX1_readItem 146 = .ok (.aload_n 1, 1) := by decide +kernel
theorem dX1_readItem_147 : decode cX1_readItem 147 = .ok (.iload 4, 2) := by decide +kernel
theorem dX1_readItem_149 : decode cX1_readItem 149 = .ok (.iload 5, 2) := by decide +kernel
theorem dX1_readItem_151 : decode cX1_readItem 151 = .ok (.iload 6, 2) := by decide +kernel
theorem dX1_readItem_153 : decode cX1_readItem 153 = .ok (.invokevirtual 66, 3) := by decide +kernel
theorem dX1_readItem_156 : decode cX1_readItem 156 = .ok (.ireturn, 1) := by decide +kernel
theorem dX1_readItem_157 : decode cX1_readItem 157 = .ok (.aload_n 1, 1) := by decide +kernel
theorem dX1_readItem_158 : decode cX1_readItem 158 = .ok (.iload 4, 2) := by decide +kernel
theorem dX1_readItem_160 : decode cX1_readItem 160 = .ok (.iload 5, 2) := by decide +kernel
theorem dX1_readItem_162 : decode cX1_readItem 162 = .ok (.invokevirtual 69, 3) := by decide +kernel
theorem dX1_readItem_165 : decode cX1_readItem 165 = .ok (.ireturn, 1) := by decide +kernel
theorem dX1_readItem_166 : decode cX1_readItem 166 = .ok (.iconst 0, 1) := by decide +kernel
theorem dX1_readItem_167 : decode cX1_readItem 167 = .ok (.ireturn, 1) := by decide +kernel
theorem dX1_numbersBehind_0 : decode cX1_numbersBehind 0 = .ok (.iload_n 0, 1) := by decide +kernel
theorem dX1_numbersBehind_1 : decode cX1_numbersBehind 1 = .ok (.tableswitch 63 110 119 #[55, 63, 59, 63, 57, 63, 63, 63, 63, 61], 55) := by decide +kernel
theorem dX1_numbersBehind_56 : decode cX1_numbersBehind 56 = .ok (.iconst 1, 1) := by decide +kernel
theorem dX1_numbersBehind_57 : decode cX1_numbersBehind 57 = .ok (.ireturn, 1) := by decide +kernel
theorem dX1_numbersBehind_58 : decode cX1_numbersBehind 58 = .ok (.iconst 3, 1) := by decide +kernel
theorem dX1_numbersBehind_59 : decode cX1_numbersBehind 59 = .ok (.ireturn, 1) := by decide +kernel
theorem dX1_numbersBehind_60 : decode cX1_numbersBehind 60 = .ok (.iconst 3, 1) := by decide +kernel
theorem dX1_numbersBehind_61 : decode cX1_numbersBehind 61 = .ok (.ireturn, 1) := by decide +kernel
theorem dX1_numbersBehind_62 : decode cX1_numbersBehind 62 = .ok (.iconst 2, 1) := by decide +kernel
theorem dX1_numbersBehind_63 : decode cX1_numbersBehind 63 = .ok (.ireturn, 1) := by decide +kernel
theorem dX1_numbersBehind_64 : decode cX1_numbersBehind 64 = .ok (.iconst 0, 1) := by decide +kernel
theorem dX1_numbersBehind_65 : decode cX1_numbersBehind 65 = .ok (.ireturn, 1) := by decide +kernel
theorem dX1_readNumbers_0 : decode cX1_readNumbers 0 = .ok (.iconst 0, 1) := by decide +kernel
theorem dX1_readNumbers_1 : decode cX1_readNumbers 1 = .ok (.istore_n 2, 1) := by decide +kernel
theorem dX1_readNumbers_2 : decode cX1_readNumbers 2 = .ok (.iload_n 2, 1) := by decide +kernel
theorem dX1_readNumbers_3 : decode cX1_readNumbers 3 = .ok (.iload_n 1, 1) := by decide +kernel
theorem dX1_readNumbers_4 : decode cX1_readNumbers 4 = .ok (.if_icmp .ge 88, 3) := by decide +kernel
theorem dX1_readNumbers_7 : decode cX1_readNumbers 7 = .ok (.aload_n 0, 1) := by decide +kernel
theorem dX1_readNumbers_8 : decode cX1_readNumbers 8 = .ok (.invokevirtual 73, 3) := by decide +kernel
theorem dX1_readNumbers_11 : decode cX1_readNumbers 11 = .ok (.istore_n 3, 1) := by decide +kernel
theorem dX1_readNumbers_12 : decode cX1_readNumbers 12 = .ok (.iload_n 3, 1) := by decide +kernel
theorem dX1_readNumbers_13 : decode cX1_readNumbers 13 = .ok (.bipush (-4), 2) := by decide +kernel
theorem dX1_readNumbers_15 : decode cX1_readNumbers 15 = .ok (.if_icmp .ne 5, 3) := by decide +kernel
theorem dX1_readNumbers_18 : decode cX1_readNumbers 18 = .ok (.iconst 0, 1) := by decide +kernel
theorem dX1_readNumbers_19 : decode cX1_readNumbers 19 = .ok (.ireturn, 1) := by decide +kernel
theorem dX1_readNumbers_20 : decode cX1_readNumbers 20 = .ok (.aload_n 0, 1) := by decide +kernel
theorem dX1_readNumbers_21 : decode cX1_readNumbers 21 = .ok (.invokevirtual 73, 3) := by decide +kernel
theorem dX1_readNumbers_24 : decode cX1_readNumbers 24 = .ok (.istore 4, 2) := by decide +kernel
theorem dX1_readNumbers_26 : decode cX1_readNumbers 26 = .ok (.aload_n 0, 1) := by decide +kernel
theorem dX1_readNumbers_27 : decode cX1_readNumbers 27 = .ok (.getfield 20, 3) := by decide +kernel
theorem dX1_readNumbers_30 : decode cX1_readNumbers 30 = .ok (.iconst 0, 1) := by decide +kernel
theorem dX1_readNumbers_31 : decode cX1_readNumbers 31 = .ok (.iload_n 2, 1) := by decide +kernel
theorem dX1_readNumbers_32 : decode cX1_readNumbers 32 = .ok (.iload 4, 2) := by decide +kernel
theorem dX1_readNumbers_34 : decode cX1_readNumbers 34 = .ok (.bipush (-4), 2) := by decide +kernel
theorem dX1_readNumbers_36 : decode cX1_readNumbers 36 = .ok (.if_icmp .ne 7, 3) := by decide +kernel
theorem dX1_readNumbers_39 : decode cX1_readNumbers 39 = .ok (.iload_n 3, 1) := by decide +kernel
theorem dX1_readNumbers_40 : decode cX1_readNumbers 40 = .ok (.goto 10, 3) := by decide +kernel
theorem dX1_readNumbers_43 : decode cX1_readNumbers 43 = .ok (.iload_n 3, 1) := by decide +kernel
theorem dX1_readNumbers_44 : decode cX1_readNumbers 44 = .ok (.bipush 10, 2) := by decide +kernel
theorem dX1_readNumbers_46 : decode cX1_readNumbers 46 = .ok (.imul, 1) := by decide +kernel
theorem dX1_readNumbers_47 : decode cX1_readNumbers 47 = .ok (.iload 4, 2) := by decide +kernel
theorem dX1_readNumbers_49 : decode cX1_readNumbers 49 = .ok (.iadd, 1) := by decide +kernel
theorem dX1_readNumbers_50 : decode cX1_readNumbers 50 = .ok (.invokevirtual 27, 3) := by decide +kernel
theorem dX1_readNumbers_53 : decode cX1_readNumbers 53 = .ok (.aload_n 0, 1) := by decide +kernel
theorem dX1_readNumbers_54 : decode cX1_readNumbers 54 = .ok (.invokevirtual 43, 3) := by decide +kernel
theorem dX1_readNumbers_57 : decode cX1_readNumbers 57 = .ok (.iload_n 2, 1) := by decide +kernel
theorem dX1_readNumbers_58 : decode cX1_readNumbers 58 = .ok (.iconst 1, 1) := by decide +kernel
theorem dX1_readNumbers_59 : decode cX1_readNumbers 59 = .ok (.iadd, 1) := by decide +kernel
theorem dX1_readNumbers_60 : decode cX1_readNumbers 60 = .ok (.iload_n 1, 1) := by decide +kernel
theorem dX1_readNumbers_61 : decode cX1_readNumbers 61 = .ok (.if_icmp .ge 8, 3) := by decide +kernel
theorem dX1_readNumbers_64 : decode cX1_readNumbers 64 = .ok (.bipush 44, 2) := by decide +kernel
theorem dX1_readNumbers_66 : decode cX1_readNumbers 66 = .ok (.goto 5, 3) := by decide +kernel
theorem dX1_readNumbers_69 : decode cX1_readNumbers 69 = .ok (.bipush 59, 2) := by decide +kernel
theorem dX1_readNumbers_71 : decode cX1_readNumbers 71 = .ok (.if_icmp .eq 5, 3) := by decide +kernel
theorem dX1_readNumbers_74 : decode cX1_readNumbers 74 = .ok (.iconst 0, 1) := by decide +kernel
theorem dX1_readNumbers_75 : decode cX1_readNumbers 75 = .ok (.ireturn, 1) := by decide +kernel
theorem dX1_readNumbers_76 : decode cX1_readNumbers 76 = .ok (.aload_n 0, 1) := by decide +kernel
theorem dX1_readNumbers_77 : decode cX1_readNumbers 77 = .ok (.dup, 1) := by decide +kernel
theorem dX1_readNumbers_78 : decode cX1_readNumbers 78 = .ok (.getfield 36, 3) := by decide +kernel
theorem dX1_readNumbers_81 : decode cX1_readNumbers 81 = .ok (.iconst 1, 1) := by decide +kernel
theorem dX1_readNumbers_82 : decode cX1_readNumbers 82 = .ok (.iadd, 1) := by decide +kernel
theorem dX1_readNumbers_83 : decode cX1_readNumbers 83 = .ok (.putfield 36, 3) := by decide +kernel
theorem dX1_readNumbers_86 : decode cX1_readNumbers 86 = .ok (.iinc 2 1, 3) := by decide +kernel
theorem dX1_readNumbers_89 : decode cX1_readNumbers 89 = .ok (.goto (-87), 3) := by decide +kernel
theorem dX1_readNumbers_92 : decode cX1_readNumbers 92 = .ok (.iconst 1, 1) := by decide +kernel
theorem dX1_readNumbers_93 : decode cX1_readNumbers 93 = .ok (.ireturn, 1) := by decide +kernel
theorem dX1_readFigure_0 : decode cX1_readFigure 0 = .ok (.aload_n 0, 1) := by decide +kernel
theorem dX1_readFigure_1 : decode cX1_readFigure 1 = .ok (.invokevirtual 43, 3) := by decide +kernel
theorem dX1_readFigure_4 : decode cX1_readFigure 4 = .ok (.istore_n 1, 1) := by decide +kernel
theorem dX1_readFigure_5 : decode cX1_readFigure 5 = .ok (.iload_n 1, 1) := by decide +kernel
theorem dX1_readFigure_6 : decode cX1_readFigure 6 = .ok (.bipush 48, 2) := by decide +kernel
theorem dX1_readFigure_8 : decode cX1_readFigure 8 = .ok (.if_icmp .lt 9, 3) := by decide +kernel
theorem dX1_readFigure_11 : decode cX1_readFigure 11 = .ok (.iload_n 1, 1) := by decide +kernel
theorem dX1_readFigure_12 : decode cX1_readFigure 12 = .ok (.bipush 57, 2) := by decide +kernel
theorem dX1_readFigure_14 : decode cX1_readFigure 14 = .ok (.if_icmp .le 6, 3) := by decide +kernel
theorem dX1_readFigure_17 : decode cX1_readFigure 17 = .ok (.bipush (-4), 2) := by decide +kernel
theorem dX1_readFigure_19 : decode cX1_readFigure 19 = .ok (.ireturn, 1) := by decide +kernel
theorem dX1_readFigure_20 : decode cX1_readFigure 20 = .ok (.aload_n 0, 1) := by decide +kernel
theorem dX1_readFigure_21 : decode cX1_readFigure 21 = .ok (.dup, 1) := by decide +kernel
theorem dX1_readFigure_22 : decode cX1_readFigure 22 = .ok (.getfield 36, 3) := by decide +kernel
theorem dX1_readFigure_25 : decode cX1_readFigure 25 = .ok (.iconst 1, 1) := by decide +kernel
theorem dX1_readFigure_26 : decode cX1_readFigure 26 = .ok (.iadd, 1) := by decide +kernel
theorem dX1_readFigure_27 : decode cX1_readFigure 27 = .ok (.putfield 36, 3) := by decide +kernel
theorem dX1_readFigure_30 : decode cX1_readFigure 30 = .ok (.iload_n 1, 1) := by decide +kernel
theorem dX1_readFigure_31 : decode cX1_readFigure 31 = .ok (.bipush 48, 2) := by decide +kernel
theorem dX1_readFigure_33 : decode cX1_readFigure 33 = .ok (.isub, 1) := by decide +kernel
theorem dX1_readFigure_34 : decode cX1_readFigure 34 = .ok (.ireturn, 1) := by decide +kernel
theorem dX1_letterHere_0 : decode cX1_letterHere 0 = .ok (.aload_n 0, 1) := by decide +kernel
theorem dX1_letterHere_1 : decode cX1_letterHere 1 = .ok (.getfield 36, 3) := by decide +kernel
theorem dX1_letterHere_4 : decode cX1_letterHere 4 = .ok (.aload_n 0, 1) := by decide +kernel
theorem dX1_letterHere_5 : decode cX1_letterHere 5 = .ok (.getfield 23, 3) := by decide +kernel
theorem dX1_letterHere_8 : decode cX1_letterHere 8 = .ok (.if_icmp .ge 18, 3) := by decide +kernel
theorem dX1_letterHere_11 : decode cX1_letterHere 11 = .ok (.aload_n 0, 1) := by decide +kernel
theorem dX1_letterHere_12 : decode cX1_letterHere 12 = .ok (.getfield 14, 3) := by decide +kernel
theorem dX1_letterHere_15 : decode cX1_letterHere 15 = .ok (.iconst 0, 1) := by decide +kernel
theorem dX1_letterHere_16 : decode cX1_letterHere 16 = .ok (.aload_n 0, 1) := by decide +kernel
theorem dX1_letterHere_17 : decode cX1_letterHere 17 = .ok (.getfield 36, 3) := by decide +kernel
theorem dX1_letterHere_20 : decode cX1_letterHere 20 = .ok (.invokevirtual 55, 3) := by decide +kernel
theorem dX1_letterHere_23 : decode cX1_letterHere 23 = .ok (.goto 5, 3) := by decide +kernel
theorem dX1_letterHere_26 : decode cX1_letterHere 26 = .ok (.bipush (-4), 2) := by decide +kernel
theorem dX1_letterHere_28 : decode cX1_letterHere 28 = .ok (.ireturn, 1) := by decide +kernel
theorem dX2_init_0 : decode cX2_init 0 = .ok (.aload_n 0, 1) := by decide +kernel
theorem dX2_init_1 : decode cX2_init 1 = .ok (.invokespecial 3, 3) := by decide +kernel
theorem dX2_init_4 : decode cX2_init 4 = .ok (.aload_n 0, 1) := by decide +kernel
theorem dX2_init_5 : decode cX2_init 5 = .ok (.new 9, 3) := by decide +kernel
theorem dX2_init_8 : decode cX2_init 8 = .ok (.dup, 1) := by decide +kernel
theorem dX2_init_9 : decode cX2_init 9 = .ok (.bipush 6, 2) := by decide +kernel
theorem dX2_init_11 : decode cX2_init 11 = .ok (.iconst 3, 1) := by decide +kernel
theorem dX2_init_12 : decode cX2_init 12 = .ok (.invokespecial 11, 3) := by decide +kernel
theorem dX2_init_15 : decode cX2_init 15 = .ok (.putfield 14, 3) := by decide +kernel
theorem dX2_init_18 : decode cX2_init 18 = .ok (.return_, 1) := by decide +kernel
theorem dX2_held_0 : decode cX2_held 0 = .ok (.aload_n 0, 1) := by decide +kernel
theorem dX2_held_1 : decode cX2_held 1 = .ok (.getfield 20, 3) := by decide +kernel
theorem dX2_held_4 : decode cX2_held 4 = .ok (.ireturn, 1) := by decide +kernel
theorem dX2_number_0 : decode cX2_number 0 = .ok (.aload_n 0, 1) := by decide +kernel
theorem dX2_number_1 : decode cX2_number 1 = .ok (.getfield 14, 3) := by decide +kernel
theorem dX2_number_4 : decode cX2_number 4 = .ok (.iload_n 1, 1) := by decide +kernel
theorem dX2_number_5 : decode cX2_number 5 = .ok (.iload_n 2, 1) := by decide +kernel
theorem dX2_number_6 : decode cX2_number 6 = .ok (.invokevirtual 24, 3) := by decide +kernel
theorem dX2_number_9 : decode cX2_number 9 = .ok (.ireturn, 1) := by decide +kernel
theorem dX2_add_0 : decode cX2_add 0 = .ok (.aload_n 0, 1) := by decide +kernel
theorem dX2_add_1 : decode cX2_add 1 = .ok (.getfield 20, 3) := by decide +kernel
theorem dX2_add_4 : decode cX2_add 4 = .ok (.bipush 6, 2) := by decide +kernel
theorem dX2_add_6 : decode cX2_add 6 = .ok (.if_icmp .lt 6, 3) := by decide +kernel
theorem dX2_add_9 : decode cX2_add 9 = .ok (.bipush (-3), 2) := by decide +kernel
theorem dX2_add_11 : decode cX2_add 11 = .ok (.ireturn, 1) := by decide +kernel
theorem dX2_add_12 : decode cX2_add 12 = .ok (.aload_n 0, 1) := by decide +kernel
theorem dX2_add_13 : decode cX2_add 13 = .ok (.getfield 14, 3) := by decide +kernel
theorem dX2_add_16 : decode cX2_add 16 = .ok (.aload_n 0, 1) := by decide +kernel
theorem dX2_add_17 : decode cX2_add 17 = .ok (.getfield 20, 3) := by decide +kernel
theorem dX2_add_20 : decode cX2_add 20 = .ok (.iconst 0, 1) := by decide +kernel
theorem dX2_add_21 : decode cX2_add 21 = .ok (.iload_n 1, 1) := by decide +kernel
theorem dX2_add_22 : decode cX2_add 22 = .ok (.invokevirtual 28, 3) := by decide +kernel
theorem dX2_add_25 : decode cX2_add 25 = .ok (.aload_n 0, 1) := by decide +kernel
theorem dX2_add_26 : decode cX2_add 26 = .ok (.getfield 14, 3) := by decide +kernel
theorem dX2_add_29 : decode cX2_add 29 = .ok (.aload_n 0, 1) := by decide +kernel
theorem dX2_add_30 : decode cX2_add 30 = .ok (.getfield 20, 3) := by decide +kernel
theorem dX2_add_33 : decode cX2_add 33 = .ok (.iconst 1, 1) := by decide +kernel
theorem dX2_add_34 : decode cX2_add 34 = .ok (.iload_n 2, 1) := by decide +kernel
theorem dX2_add_35 : decode cX2_add 35 = .ok (.invokevirtual 28, 3) := by decide +kernel
theorem dX2_add_38 : decode cX2_add 38 = .ok (.aload_n 0, 1) := by decide +kernel
theorem dX2_add_39 : decode cX2_add 39 = .ok (.getfield 14, 3) := by decide +kernel
theorem dX2_add_42 : decode cX2_add 42 = .ok (.aload_n 0, 1) := by decide +kernel
theorem dX2_add_43 : decode cX2_add 43 = .ok (.getfield 20, 3) := by decide +kernel
theorem dX2_add_46 : decode cX2_add 46 = .ok (.iconst 2, 1) := by decide +kernel
theorem dX2_add_47 : decode cX2_add 47 = .ok (.iload_n 3, 1) := by decide +kernel
theorem dX2_add_48 : decode cX2_add 48 = .ok (.invokevirtual 28, 3) := by decide +kernel
theorem dX2_add_51 : decode cX2_add 51 = .ok (.aload_n 0, 1) := by decide +kernel
theorem dX2_add_52 : decode cX2_add 52 = .ok (.dup, 1) := by decide +kernel
theorem dX2_add_53 : decode cX2_add 53 = .ok (.getfield 20, 3) := by decide +kernel
theorem dX2_add_56 : decode cX2_add 56 = .ok (.iconst 1, 1) := by decide +kernel
theorem dX2_add_57 : decode cX2_add 57 = .ok (.iadd, 1) := by decide +kernel
theorem dX2_add_58 : decode cX2_add 58 = .ok (.putfield 20, 3) := by decide +kernel
theorem dX2_add_61 : decode cX2_add 61 = .ok (.aload_n 0, 1) := by decide +kernel
theorem dX2_add_62 : decode cX2_add 62 = .ok (.getfield 20, 3) := by decide +kernel
theorem dX2_add_65 : decode cX2_add 65 = .ok (.ireturn, 1) := by decide +kernel
theorem dX2_empty_0 : decode cX2_empty 0 = .ok (.aload_n 0, 1) := by decide +kernel
theorem dX2_empty_1 : decode cX2_empty 1 = .ok (.getfield 20, 3) := by decide +kernel
theorem dX2_empty_4 : decode cX2_empty 4 = .ok (.istore_n 1, 1) := by decide +kernel
theorem dX2_empty_5 : decode cX2_empty 5 = .ok (.aload_n 0, 1) := by decide +kernel
theorem dX2_empty_6 : decode cX2_empty 6 = .ok (.iconst 0, 1) := by decide +kernel
theorem dX2_empty_7 : decode cX2_empty 7 = .ok (.putfield 20, 3) := by decide +kernel
theorem dX2_empty_10 : decode cX2_empty 10 = .ok (.iload_n 1, 1) := by decide +kernel
theorem dX2_empty_11 : decode cX2_empty 11 = .ok (.ireturn, 1) := by decide +kernel
theorem dX3_init_0 : decode cX3_init 0 = .ok (.aload_n 0, 1) := by decide +kernel
theorem dX3_init_1 : decode cX3_init 1 = .ok (.invokespecial 3, 3) := by decide +kernel
theorem dX3_init_4 : decode cX3_init 4 = .ok (.aload_n 0, 1) := by decide +kernel
theorem dX3_init_5 : decode cX3_init 5 = .ok (.bipush 6, 2) := by decide +kernel
theorem dX3_init_7 : decode cX3_init 7 = .ok (.putfield 9, 3) := by decide +kernel
theorem dX3_init_10 : decode cX3_init 10 = .ok (.aload_n 0, 1) := by decide +kernel
theorem dX3_init_11 : decode cX3_init 11 = .ok (.new 15, 3) := by decide +kernel
theorem dX3_init_14 : decode cX3_init 14 = .ok (.dup, 1) := by decide +kernel
theorem dX3_init_15 : decode cX3_init 15 = .ok (.bipush 8, 2) := by decide +kernel
theorem dX3_init_17 : decode cX3_init 17 = .ok (.bipush 8, 2) := by decide +kernel
theorem dX3_init_19 : decode cX3_init 19 = .ok (.invokespecial 17, 3) := by decide +kernel
theorem dX3_init_22 : decode cX3_init 22 = .ok (.putfield 20, 3) := by decide +kernel
theorem dX3_init_25 : decode cX3_init 25 = .ok (.aload_n 0, 1) := by decide +kernel
theorem dX3_init_26 : decode cX3_init 26 = .ok (.new 15, 3) := by decide +kernel
theorem dX3_init_29 : decode cX3_init 29 = .ok (.dup, 1) := by decide +kernel
theorem dX3_init_30 : decode cX3_init 30 = .ok (.bipush 8, 2) := by decide +kernel
theorem dX3_init_32 : decode cX3_init 32 = .ok (.bipush 8, 2) := by decide +kernel
theorem dX3_init_34 : decode cX3_init 34 = .ok (.invokespecial 17, 3) := by decide +kernel
theorem dX3_init_37 : decode cX3_init 37 = .ok (.putfield 24, 3) := by decide +kernel
theorem dX3_init_40 : decode cX3_init 40 = .ok (.return_, 1) := by decide +kernel
theorem dX3_become_0 : decode cX3_become 0 = .ok (.aload_n 0, 1) := by decide +kernel
theorem dX3_become_1 : decode cX3_become 1 = .ok (.aload_n 1, 1) := by decide +kernel
theorem dX3_become_2 : decode cX3_become 2 = .ok (.getfield 9, 3) := by decide +kernel
theorem dX3_become_5 : decode cX3_become 5 = .ok (.putfield 9, 3) := by decide +kernel
theorem dX3_become_8 : decode cX3_become 8 = .ok (.aload_n 0, 1) := by decide +kernel
theorem dX3_become_9 : decode cX3_become 9 = .ok (.getfield 20, 3) := by decide +kernel
theorem dX3_become_12 : decode cX3_become 12 = .ok (.aload_n 1, 1) := by decide +kernel
theorem dX3_become_13 : decode cX3_become 13 = .ok (.getfield 20, 3) := by decide +kernel
theorem dX3_become_16 : decode cX3_become 16 = .ok (.invokevirtual 27, 3) := by decide +kernel
theorem dX3_become_19 : decode cX3_become 19 = .ok (.aload_n 0, 1) := by decide +kernel
theorem dX3_become_20 : decode cX3_become 20 = .ok (.getfield 24, 3) := by decide +kernel
theorem dX3_become_23 : decode cX3_become 23 = .ok (.aload_n 1, 1) := by decide +kernel
theorem dX3_become_24 : decode cX3_become 24 = .ok (.getfield 24, 3) := by decide +kernel
theorem dX3_become_27 : decode cX3_become 27 = .ok (.invokevirtual 27, 3) := by decide +kernel
theorem dX3_become_30 : decode cX3_become 30 = .ok (.return_, 1) := by decide +kernel
theorem dX3_clear_0 : decode cX3_clear 0 = .ok (.aload_n 0, 1) := by decide +kernel
theorem dX3_clear_1 : decode cX3_clear 1 = .ok (.iconst 0, 1) := by decide +kernel
theorem dX3_clear_2 : decode cX3_clear 2 = .ok (.iload_n 1, 1) := by decide +kernel
theorem dX3_clear_3 : decode cX3_clear 3 = .ok (.bipush 8, 2) := by decide +kernel
theorem dX3_clear_5 : decode cX3_clear 5 = .ok (.invokestatic 31, 3) := by decide +kernel
theorem dX3_clear_8 : decode cX3_clear 8 = .ok (.invokestatic 37, 3) := by decide +kernel
theorem dX3_clear_11 : decode cX3_clear 11 = .ok (.putfield 9, 3) := by decide +kernel
theorem dX3_clear_14 : decode cX3_clear 14 = .ok (.aload_n 0, 1) := by decide +kernel
theorem dX3_clear_15 : decode cX3_clear 15 = .ok (.getfield 20, 3) := by decide +kernel
theorem dX3_clear_18 : decode cX3_clear 18 = .ok (.iconst 0, 1) := by decide +kernel
theorem dX3_clear_19 : decode cX3_clear 19 = .ok (.invokevirtual 40, 3) := by decide +kernel
theorem dX3_clear_22 : decode cX3_clear 22 = .ok (.return_, 1) := by decide +kernel
theorem dX3_towns_0 : decode cX3_towns 0 = .ok (.aload_n 0, 1) := by decide +kernel
theorem dX3_towns_1 : decode cX3_towns 1 = .ok (.getfield 9, 3) := by decide +kernel
theorem dX3_towns_4 : decode cX3_towns 4 = .ok (.ireturn, 1) := by decide +kernel
theorem dX3_change_0 : decode cX3_change 0 = .ok (.aload_n 0, 1) := by decide +kernel
theorem dX3_change_1 : decode cX3_change 1 = .ok (.iload_n 1, 1) := by decide +kernel
theorem dX3_change_2 : decode cX3_change 2 = .ok (.iload_n 2, 1) := by decide +kernel
theorem dX3_change_3 : decode cX3_change 3 = .ok (.iload_n 3, 1) := by decide +kernel
theorem dX3_change_4 : decode cX3_change 4 = .ok (.invokevirtual 44, 3) := by decide +kernel
theorem dX3_change_7 : decode cX3_change 7 = .ok (.aload_n 0, 1) := by decide +kernel
theorem dX3_change_8 : decode cX3_change 8 = .ok (.invokevirtual 48, 3) := by decide +kernel
theorem dX3_change_11 : decode cX3_change 11 = .ok (.return_, 1) := by decide +kernel
theorem dX3_set_0 : decode cX3_set 0 = .ok (.aload_n 0, 1) := by decide +kernel
theorem dX3_set_1 : decode cX3_set 1 = .ok (.getfield 20, 3) := by decide +kernel
theorem dX3_set_4 : decode cX3_set 4 = .ok (.iload_n 1, 1) := by decide +kernel
theorem dX3_set_5 : decode cX3_set 5 = .ok (.iload_n 2, 1) := by decide +kernel
theorem dX3_set_6 : decode cX3_set 6 = .ok (.iload_n 3, 1) := by decide +kernel
theorem dX3_set_7 : decode cX3_set 7 = .ok (.invokevirtual 51, 3) := by decide +kernel
theorem dX3_set_10 : decode cX3_set 10 = .ok (.aload_n 0, 1) := by decide +kernel
theorem dX3_set_11 : decode cX3_set 11 = .ok (.getfield 20, 3) := by decide +kernel
theorem dX3_set_14 : decode cX3_set 14 = .ok (.iload_n 2, 1) := by decide +kernel
theorem dX3_set_15 : decode cX3_set 15 = .ok (.iload_n 1, 1) := by decide +kernel
theorem dX3_set_16 : decode cX3_set 16 = .ok (.iload_n 3, 1) := by decide +kernel
theorem dX3_set_17 : decode cX3_set 17 = .ok (.invokevirtual 51, 3) := by decide +kernel
theorem dX3_set_20 : decode cX3_set 20 = .ok (.return_, 1) := by decide +kernel
theorem dX3_survey_0 : decode cX3_survey 0 = .ok (.iconst 0, 1) := by decide +kernel
theorem dX3_survey_1 : decode cX3_survey 1 = .ok (.istore_n 1, 1) := by decide +kernel
theorem dX3_survey_2 : decode cX3_survey 2 = .ok (.iload_n 1, 1) := by decide +kernel
theorem dX3_survey_3 : decode cX3_survey 3 = .ok (.aload_n 0, 1) := by decide +kernel
theorem dX3_survey_4 : decode cX3_survey 4 = .ok (.getfield 9, 3) := by decide +kernel
theorem dX3_survey_7 : decode cX3_survey 7 = .ok (.if_icmp .ge 63, 3) := by decide +kernel
theorem dX3_survey_10 : decode cX3_survey 10 = .ok (.iconst 0, 1) := by decide +kernel
theorem dX3_survey_11 : decode cX3_survey 11 = .ok (.istore_n 2, 1) := by decide +kernel
theorem dX3_survey_12 : decode cX3_survey 12 = .ok (.iload_n 2, 1) := by decide +kernel
theorem dX3_survey_13 : decode cX3_survey 13 = .ok (.aload_n 0, 1) := by decide +kernel
theorem dX3_survey_14 : decode cX3_survey 14 = .ok (.getfield 9, 3) := by decide +kernel
theorem dX3_survey_17 : decode cX3_survey 17 = .ok (.if_icmp .ge 47, 3) := by decide +kernel
theorem dX3_survey_20 : decode cX3_survey 20 = .ok (.aload_n 0, 1) := by decide +kernel
theorem dX3_survey_21 : decode cX3_survey 21 = .ok (.getfield 20, 3) := by decide +kernel
theorem dX3_survey_24 : decode cX3_survey 24 = .ok (.iload_n 1, 1) := by decide +kernel
theorem dX3_survey_25 : decode cX3_survey 25 = .ok (.iload_n 2, 1) := by decide +kernel
theorem dX3_survey_26 : decode cX3_survey 26 = .ok (.invokevirtual 54, 3) := by decide +kernel
theorem dX3_survey_29 : decode cX3_survey 29 = .ok (.istore_n 3, 1) := by decide +kernel
theorem dX3_survey_30 : decode cX3_survey 30 = .ok (.aload_n 0, 1) := by decide +kernel
theorem dX3_survey_31 : decode cX3_survey 31 = .ok (.getfield 24, 3) := by decide +kernel
theorem dX3_survey_34 : decode cX3_survey 34 = .ok (.iload_n 1, 1) := by decide +kernel
theorem dX3_survey_35 : decode cX3_survey 35 = .ok (.iload_n 2, 1) := by decide +kernel
theorem dX3_survey_36 : decode cX3_survey 36 = .ok (.iload_n 1, 1) := by decide +kernel
theorem dX3_survey_37 : decode cX3_survey 37 = .ok (.iload_n 2, 1) := by decide +kernel
theorem dX3_survey_38 : decode cX3_survey 38 = .ok (.if_icmp .ne 7, 3) := by decide +kernel
theorem dX3_survey_41 : decode cX3_survey 41 = .ok (.iconst 0, 1) := by decide +kernel
theorem dX3_survey_42 : decode cX3_survey 42 = .ok (.goto 13, 3) := by decide +kernel
theorem dX3_survey_45 : decode cX3_survey 45 = .ok (.iload_n 3, 1) := by decide +kernel
theorem dX3_survey_46 : decode cX3_survey 46 = .ok (.ifCond .le 7, 3) := by decide +kernel
theorem dX3_survey_49 : decode cX3_survey 49 = .ok (.iload_n 3, 1) := by decide +kernel
theorem dX3_survey_50 : decode cX3_survey 50 = .ok (.goto 5, 3) := by decide +kernel
theorem dX3_survey_53 : decode cX3_survey 53 = .ok (.bipush (-4), 2) := by decide +kernel
theorem dX3_survey_55 : decode cX3_survey 55 = .ok (.invokevirtual 51, 3) := by decide +kernel
theorem dX3_survey_58 : decode cX3_survey 58 = .ok (.iinc 2 1, 3) := by decide +kernel
theorem dX3_survey_61 : decode cX3_survey 61 = .ok (.goto (-49), 3) := by decide +kernel
theorem dX3_survey_64 : decode cX3_survey 64 = .ok (.iinc 1 1, 3) := by decide +kernel
theorem dX3_survey_67 : decode cX3_survey 67 = .ok (.goto (-65), 3) := by decide +kernel
theorem dX3_survey_70 : decode cX3_survey 70 = .ok (.iconst 0, 1) := by decide +kernel
theorem dX3_survey_71 : decode cX3_survey 71 = .ok (.istore_n 1, 1) := by decide +kernel
theorem dX3_survey_72 : decode cX3_survey 72 = .ok (.iload_n 1, 1) := by decide +kernel
theorem dX3_survey_73 : decode cX3_survey 73 = .ok (.aload_n 0, 1) := by decide +kernel
theorem dX3_survey_74 : decode cX3_survey 74 = .ok (.getfield 9, 3) := by decide +kernel
theorem dX3_survey_77 : decode cX3_survey 77 = .ok (.if_icmp .ge 48, 3) := by decide +kernel
theorem dX3_survey_80 : decode cX3_survey 80 = .ok (.iconst 0, 1) := by decide +kernel
theorem dX3_survey_81 : decode cX3_survey 81 = .ok (.istore_n 2, 1) := by decide +kernel
theorem dX3_survey_82 : decode cX3_survey 82 = .ok (.iload_n 2, 1) := by decide +kernel
theorem dX3_survey_83 : decode cX3_survey 83 = .ok (.aload_n 0, 1) := by decide +kernel
theorem dX3_survey_84 : decode cX3_survey 84 = .ok (.getfield 9, 3) := by decide +kernel
theorem dX3_survey_87 : decode cX3_survey 87 = .ok (.if_icmp .ge 32, 3) := by decide +kernel
theorem dX3_survey_90 : decode cX3_survey 90 = .ok (.iconst 0, 1) := by decide +kernel
theorem dX3_survey_91 : decode cX3_survey 91 = .ok (.istore_n 3, 1) := by decide +kernel
theorem dX3_survey_92 : decode cX3_survey 92 = .ok (.iload_n 3, 1) := by decide +kernel
theorem dX3_survey_93 : decode cX3_survey 93 = .ok (.aload_n 0, 1) := by decide +kernel
theorem dX3_survey_94 : decode cX3_survey 94 = .ok (.getfield 9, 3) := by decide +kernel
theorem dX3_survey_97 : decode cX3_survey 97 = .ok (.if_icmp .ge 16, 3) := by decide +kernel
theorem dX3_survey_100 : decode cX3_survey 100 = .ok (.aload_n 0, 1) := by decide +kernel
theorem dX3_survey_101 : decode cX3_survey 101 = .ok (.iload_n 2, 1) := by decide +kernel
theorem dX3_survey_102 : decode cX3_survey 102 = .ok (.iload_n 1, 1) := by decide +kernel
theorem dX3_survey_103 : decode cX3_survey 103 = .ok (.iload_n 3, 1) := by decide +kernel
theorem dX3_survey_104 : decode cX3_survey 104 = .ok (.invokevirtual 57, 3) := by decide +kernel
theorem dX3_survey_107 : decode cX3_survey 107 = .ok (.iinc 3 1, 3) := by decide +kernel
theorem dX3_survey_110 : decode cX3_survey 110 = .ok (.goto (-18), 3) := by decide +kernel
theorem dX3_survey_113 : decode cX3_survey 113 = .ok (.iinc 2 1, 3) := by decide +kernel
theorem dX3_survey_116 : decode cX3_survey 116 = .ok (.goto (-34), 3) := by decide +kernel
theorem dX3_survey_119 : decode cX3_survey 119 = .ok (.iinc 1 1, 3) := by decide +kernel
theorem dX3_survey_122 : decode cX3_survey 122 = .ok (.goto (-50), 3) := by decide +kernel
theorem dX3_survey_125 : decode cX3_survey 125 = .ok (.return_, 1) := by decide +kernel
theorem dX3_shorten_0 : decode cX3_shorten 0 = .ok (.aload_n 0, 1) := by decide +kernel
theorem dX3_shorten_1 : decode cX3_shorten 1 = .ok (.getfield 24, 3) := by decide +kernel
theorem dX3_shorten_4 : decode cX3_shorten 4 = .ok (.iload_n 1, 1) := by decide +kernel
theorem dX3_shorten_5 : decode cX3_shorten 5 = .ok (.iload_n 2, 1) := by decide +kernel
theorem dX3_shorten_6 : decode cX3_shorten 6 = .ok (.invokevirtual 54, 3) := by decide +kernel
theorem dX3_shorten_9 : decode cX3_shorten 9 = .ok (.istore 4, 2) := by decide +kernel
theorem dX3_shorten_11 : decode cX3_shorten 11 = .ok (.aload_n 0, 1) := by decide +kernel
theorem dX3_shorten_12 : decode cX3_shorten 12 = .ok (.getfield 24, 3) := by decide +kernel
theorem dX3_shorten_15 : decode cX3_shorten 15 = .ok (.iload_n 2, 1) := by decide +kernel
theorem dX3_shorten_16 : decode cX3_shorten 16 = .ok (.iload_n 3, 1) := by decide +kernel
theorem dX3_shorten_17 : decode cX3_shorten 17 = .ok (.invokevirtual 54, 3) := by decide +kernel
theorem dX3_shorten_20 : decode cX3_shorten 20 = .ok (.istore 5, 2) := by decide +kernel
theorem dX3_shorten_22 : decode cX3_shorten 22 = .ok (.aload_n 0, 1) := by decide +kernel
theorem dX3_shorten_23 : decode cX3_shorten 23 = .ok (.getfield 24, 3) := by decide +kernel
theorem dX3_shorten_26 : decode cX3_shorten 26 = .ok (.iload_n 1, 1) := by decide +kernel
theorem dX3_shorten_27 : decode cX3_shorten 27 = .ok (.iload_n 3, 1) := by decide +kernel
theorem dX3_shorten_28 : decode cX3_shorten 28 = .ok (.invokevirtual 54, 3) := by decide +kernel
theorem dX3_shorten_31 : decode cX3_shorten 31 = .ok (.istore 6, 2) := by decide +kernel
theorem dX3_shorten_33 : decode cX3_shorten 33 = .ok (.iload 4, 2) := by decide +kernel
theorem dX3_shorten_35 : decode cX3_shorten 35 = .ok (.bipush (-4), 2) := by decide +kernel
theorem dX3_shorten_37 : decode cX3_shorten 37 = .ok (.if_icmp .eq 41, 3) := by decide +kernel
theorem dX3_shorten_40 : decode cX3_shorten 40 = .ok (.iload 5, 2) := by decide +kernel
theorem dX3_shorten_42 : decode cX3_shorten 42 = .ok (.bipush (-4), 2) := by decide +kernel
theorem dX3_shorten_44 : decode cX3_shorten 44 = .ok (.if_icmp .eq 34, 3) := by decide +kernel
theorem dX3_shorten_47 : decode cX3_shorten 47 = .ok (.iload 6, 2) := by decide +kernel
theorem dX3_shorten_49 : decode cX3_shorten 49 = .ok (.bipush (-4), 2) := by decide +kernel
theorem dX3_shorten_51 : decode cX3_shorten 51 = .ok (.if_icmp .eq 13, 3) := by decide +kernel
theorem dX3_shorten_54 : decode cX3_shorten 54 = .ok (.iload 4, 2) := by decide +kernel
theorem dX3_shorten_56 : decode cX3_shorten 56 = .ok (.iload 5, 2) := by decide +kernel
theorem dX3_shorten_58 : decode cX3_shorten 58 = .ok (.iadd, 1) := by decide +kernel
theorem dX3_shorten_59 : decode cX3_shorten 59 = .ok (.iload 6, 2) := by decide +kernel
theorem dX3_shorten_61 : decode cX3_shorten 61 = .ok (.if_icmp .ge 17, 3) := by decide +kernel
theorem dX3_shorten_64 : decode cX3_shorten 64 = .ok (.aload_n 0, 1) := by decide +kernel
theorem dX3_shorten_65 : decode cX3_shorten 65 = .ok (.getfield 24, 3) := by decide +kernel
theorem dX3_shorten_68 : decode cX3_shorten 68 = .ok (.iload_n 1, 1) := by decide +kernel
theorem dX3_shorten_69 : decode cX3_shorten 69 = .ok (.iload_n 3, 1) := by decide +kernel
theorem dX3_shorten_70 : decode cX3_shorten 70 = .ok (.iload 4, 2) := by decide +kernel
theorem dX3_shorten_72 : decode cX3_shorten 72 = .ok (.iload 5, 2) := by decide +kernel
theorem dX3_shorten_74 : decode cX3_shorten 74 = .ok (.iadd, 1) := by decide +kernel
theorem dX3_shorten_75 : decode cX3_shorten 75 = .ok (.invokevirtual 51, 3) := by decide +kernel
theorem dX3_shorten_78 : decode cX3_shorten 78 = .ok (.return_, 1) := by decide +kernel
theorem dX3_between_0 : decode cX3_between 0 = .ok (.aload_n 0, 1) := by decide +kernel
theorem dX3_between_1 : decode cX3_between 1 = .ok (.getfield 20, 3) := by decide +kernel
theorem dX3_between_4 : decode cX3_between 4 = .ok (.iload_n 1, 1) := by decide +kernel
theorem dX3_between_5 : decode cX3_between 5 = .ok (.iload_n 2, 1) := by decide +kernel
theorem dX3_between_6 : decode cX3_between 6 = .ok (.invokevirtual 54, 3) := by decide +kernel
theorem dX3_between_9 : decode cX3_between 9 = .ok (.ireturn, 1) := by decide +kernel
theorem dX3_pathMiles_0 : decode cX3_pathMiles 0 = .ok (.aload_n 0, 1) := by decide +kernel
theorem dX3_pathMiles_1 : decode cX3_pathMiles 1 = .ok (.getfield 24, 3) := by decide +kernel
theorem dX3_pathMiles_4 : decode cX3_pathMiles 4 = .ok (.iload_n 1, 1) := by decide +kernel
theorem dX3_pathMiles_5 : decode cX3_pathMiles 5 = .ok (.iload_n 2, 1) := by decide +kernel
theorem dX3_pathMiles_6 : decode cX3_pathMiles 6 = .ok (.invokevirtual 54, 3) := by decide +kernel
theorem dX3_pathMiles_9 : decode cX3_pathMiles 9 = .ok (.ireturn, 1) := by decide +kernel
theorem dX3_firstStep_0 : decode cX3_firstStep 0 = .ok (.aload_n 0, 1) := by decide +kernel
theorem dX3_firstStep_1 : decode cX3_firstStep 1 = .ok (.getfield 24, 3) := by decide +kernel
theorem dX3_firstStep_4 : decode cX3_firstStep 4 = .ok (.iload_n 1, 1) := by decide +kernel
theorem dX3_firstStep_5 : decode cX3_firstStep 5 = .ok (.iload_n 2, 1) := by decide +kernel
theorem dX3_firstStep_6 : decode cX3_firstStep 6 = .ok (.invokevirtual 54, 3) := by decide +kernel
theorem dX3_firstStep_9 : decode cX3_firstStep 9 = .ok (.istore_n 3, 1) := by decide +kernel
theorem dX3_firstStep_10 : decode cX3_firstStep 10 = .ok (.iload_n 1, 1) := by decide +kernel
theorem dX3_firstStep_11 : decode cX3_firstStep 11 = .ok (.iload_n 2, 1) := by decide +kernel
theorem dX3_firstStep_12 : decode cX3_firstStep 12 = .ok (.if_icmp .eq 9, 3) := by decide +kernel
theorem dX3_firstStep_15 : decode cX3_firstStep 15 = .ok (.iload_n 3, 1) := by decide +kernel
theorem dX3_firstStep_16 : decode cX3_firstStep 16 = .ok (.bipush (-4), 2) := by decide +kernel
theorem dX3_firstStep_18 : decode cX3_firstStep 18 = .ok (.if_icmp .ne 6, 3) := by decide +kernel
theorem dX3_firstStep_21 : decode cX3_firstStep 21 = .ok (.bipush (-4), 2) := by decide +kernel
theorem dX3_firstStep_23 : decode cX3_firstStep 23 = .ok (.ireturn, 1) := by decide +kernel
theorem dX3_firstStep_24 : decode cX3_firstStep 24 = .ok (.iconst 0, 1) := by decide +kernel
theorem dX3_firstStep_25 : decode cX3_firstStep 25 = .ok (.istore 4, 2) := by decide +kernel
theorem dX3_firstStep_27 : decode cX3_firstStep 27 = .ok (.iload 4, 2) := by decide +kernel
theorem dX3_firstStep_29 : decode cX3_firstStep 29 = .ok (.aload_n 0, 1) := by decide +kernel
theorem dX3_firstStep_30 : decode cX3_firstStep 30 = .ok (.getfield 9, 3) := by decide +kernel
theorem dX3_firstStep_33 : decode cX3_firstStep 33 = .ok (.if_icmp .ge 57, 3) := by decide +kernel
theorem dX3_firstStep_36 : decode cX3_firstStep 36 = .ok (.aload_n 0, 1) := by decide +kernel
theorem dX3_firstStep_37 : decode cX3_firstStep 37 = .ok (.getfield 20, 3) := by decide +kernel
theorem dX3_firstStep_40 : decode cX3_firstStep 40 = .ok (.iload_n 1, 1) := by decide +kernel
theorem dX3_firstStep_41 : decode cX3_firstStep 41 = .ok (.iload 4, 2) := by decide +kernel
theorem dX3_firstStep_43 : decode cX3_firstStep 43 = .ok (.invokevirtual 54, 3) := by decide +kernel
theorem dX3_firstStep_46 : decode cX3_firstStep 46 = .ok (.istore 5, 2) := by decide +kernel
theorem dX3_firstStep_48 : decode cX3_firstStep 48 = .ok (.aload_n 0, 1) := by decide +kernel
theorem dX3_firstStep_49 : decode cX3_firstStep 49 = .ok (.getfield 24, 3) := by decide +kernel
theorem dX3_firstStep_52 : decode cX3_firstStep 52 = .ok (.iload 4, 2) := by decide +kernel
theorem dX3_firstStep_54 : decode cX3_firstStep 54 = .ok (.iload_n 2, 1) := by decide +kernel
theorem dX3_firstStep_55 : decode cX3_firstStep 55 = .ok (.invokevirtual 54, 3) := by decide +kernel
theorem dX3_firstStep_58 : decode cX3_firstStep 58 = .ok (.istore 6, 2) := by decide +kernel
theorem dX3_firstStep_60 : decode cX3_firstStep 60 = .ok (.iload 5, 2) := by decide +kernel
theorem dX3_firstStep_62 : decode cX3_firstStep 62 = .ok (.ifCond .le 22, 3) := by decide +kernel
theorem dX3_firstStep_65 : decode cX3_firstStep 65 = .ok (.iload 6, 2) := by decide +kernel
theorem dX3_firstStep_67 : decode cX3_firstStep 67 = .ok (.bipush (-4), 2) := by decide +kernel
theorem dX3_firstStep_69 : decode cX3_firstStep 69 = .ok (.if_icmp .eq 15, 3) := by decide +kernel
theorem dX3_firstStep_72 : decode cX3_firstStep 72 = .ok (.iload 5, 2) := by decide +kernel
theorem dX3_firstStep_74 : decode cX3_firstStep 74 = .ok (.iload 6, 2) := by decide +kernel
theorem dX3_firstStep_76 : decode cX3_firstStep 76 = .ok (.iadd, 1) := by decide +kernel
theorem dX3_firstStep_77 : decode cX3_firstStep 77 = .ok (.iload_n 3, 1) := by decide +kernel
theorem dX3_firstStep_78 : decode cX3_firstStep 78 = .ok (.if_icmp .ne 6, 3) := by decide +kernel
theorem dX3_firstStep_81 : decode cX3_firstStep 81 = .ok (.iload 4, 2) := by decide +kernel
theorem dX3_firstStep_83 : decode cX3_firstStep 83 = .ok (.ireturn, 1) := by decide +kernel
theorem dX3_firstStep_84 : decode cX3_firstStep 84 = .ok (.iinc 4 1, 3) := by decide +kernel
theorem dX3_firstStep_87 : decode cX3_firstStep 87 = .ok (.goto (-60), 3) := by decide +kernel
theorem dX3_firstStep_90 : decode cX3_firstStep 90 = .ok (.bipush (-4), 2) := by decide +kernel
theorem dX3_firstStep_92 : decode cX3_firstStep 92 = .ok (.ireturn, 1) := by decide +kernel
theorem dX3_townBehind_0 : decode cX3_townBehind 0 = .ok (.iload_n 1, 1) := by decide +kernel
theorem dX3_townBehind_1 : decode cX3_townBehind 1 = .ok (.iconst 1, 1) := by decide +kernel
theorem dX3_townBehind_2 : decode cX3_townBehind 2 = .ok (.iadd, 1) := by decide +kernel
theorem dX3_townBehind_3 : decode cX3_townBehind 3 = .ok (.aload_n 0, 1) := by decide +kernel
theorem dX3_townBehind_4 : decode cX3_townBehind 4 = .ok (.getfield 9, 3) := by decide +kernel
theorem dX3_townBehind_7 : decode cX3_townBehind 7 = .ok (.if_icmp .ge 9, 3) := by decide +kernel
theorem dX3_townBehind_10 : decode cX3_townBehind 10 = .ok (.iload_n 1, 1) := by decide +kernel
theorem dX3_townBehind_11 : decode cX3_townBehind 11 = .ok (.iconst 1, 1) := by decide +kernel
theorem dX3_townBehind_12 : decode cX3_townBehind 12 = .ok (.iadd, 1) := by decide +kernel
theorem dX3_townBehind_13 : decode cX3_townBehind 13 = .ok (.goto 4, 3) := by decide +kernel
theorem dX3_townBehind_16 : decode cX3_townBehind 16 = .ok (.iconst 0, 1) := by decide +kernel
theorem dX3_townBehind_17 : decode cX3_townBehind 17 = .ok (.ireturn, 1) := by decide +kernel
theorem dX3_turned_0 : decode cX3_turned 0 = .ok (.iload_n 2, 1) := by decide +kernel
theorem dX3_turned_1 : decode cX3_turned 1 = .ok (.istore_n 3, 1) := by decide +kernel
theorem dX3_turned_2 : decode cX3_turned 2 = .ok (.iconst 0, 1) := by decide +kernel
theorem dX3_turned_3 : decode cX3_turned 3 = .ok (.istore 4, 2) := by decide +kernel
theorem dX3_turned_5 : decode cX3_turned 5 = .ok (.iload 4, 2) := by decide +kernel
theorem dX3_turned_7 : decode cX3_turned 7 = .ok (.aload_n 0, 1) := by decide +kernel
theorem dX3_turned_8 : decode cX3_turned 8 = .ok (.getfield 9, 3) := by decide +kernel
theorem dX3_turned_11 : decode cX3_turned 11 = .ok (.if_icmp .ge 41, 3) := by decide +kernel
theorem dX3_turned_14 : decode cX3_turned 14 = .ok (.iload_n 3, 1) := by decide +kernel
theorem dX3_turned_15 : decode cX3_turned 15 = .ok (.iconst 1, 1) := by decide +kernel
theorem dX3_turned_16 : decode cX3_turned 16 = .ok (.iadd, 1) := by decide +kernel
theorem dX3_turned_17 : decode cX3_turned 17 = .ok (.aload_n 0, 1) := by decide +kernel
theorem dX3_turned_18 : decode cX3_turned 18 = .ok (.getfield 9, 3) := by decide +kernel
theorem dX3_turned_21 : decode cX3_turned 21 = .ok (.if_icmp .ge 9, 3) := by decide +kernel
theorem dX3_turned_24 : decode cX3_turned 24 = .ok (.iload_n 3, 1) := by decide +kernel
theorem dX3_turned_25 : decode cX3_turned 25 = .ok (.iconst 1, 1) := by decide +kernel
theorem dX3_turned_26 : decode cX3_turned 26 = .ok (.iadd, 1) := by decide +kernel
theorem dX3_turned_27 : decode cX3_turned 27 = .ok (.goto 4, 3) := by decide +kernel
theorem dX3_turned_30 : decode cX3_turned 30 = .ok (.iconst 0, 1) := by decide +kernel
theorem dX3_turned_31 : decode cX3_turned 31 = .ok (.istore_n 3, 1) := by decide +kernel
theorem dX3_turned_32 : decode cX3_turned 32 = .ok (.aload_n 0, 1) := by decide +kernel
theorem dX3_turned_33 : decode cX3_turned 33 = .ok (.getfield 20, 3) := by decide +kernel
theorem dX3_turned_36 : decode cX3_turned 36 = .ok (.iload_n 1, 1) := by decide +kernel
theorem dX3_turned_37 : decode cX3_turned 37 = .ok (.iload_n 3, 1) := by decide +kernel
theorem dX3_turned_38 : decode cX3_turned 38 = .ok (.invokevirtual 54, 3) := by decide +kernel
theorem dX3_turned_41 : decode cX3_turned 41 = .ok (.ifCond .le 5, 3) := by decide +kernel
theorem dX3_turned_44 : decode cX3_turned 44 = .ok (.iload_n 3, 1) := by decide +kernel
theorem dX3_turned_45 : decode cX3_turned 45 = .ok (.ireturn, 1) := by decide +kernel
theorem dX3_turned_46 : decode cX3_turned 46 = .ok (.iinc 4 1, 3) := by decide +kernel
theorem dX3_turned_49 : decode cX3_turned 49 = .ok (.goto (-44), 3) := by decide +kernel
theorem dX3_turned_52 : decode cX3_turned 52 = .ok (.bipush (-4), 2) := by decide +kernel
theorem dX3_turned_54 : decode cX3_turned 54 = .ok (.ireturn, 1) := by decide +kernel
theorem dX3_nearest_0 : decode cX3_nearest 0 = .ok (.bipush (-4), 2) := by decide +kernel
theorem dX3_nearest_2 : decode cX3_nearest 2 = .ok (.istore_n 2, 1) := by decide +kernel
theorem dX3_nearest_3 : decode cX3_nearest 3 = .ok (.iconst 0, 1) := by decide +kernel
theorem dX3_nearest_4 : decode cX3_nearest 4 = .ok (.istore_n 3, 1) := by decide +kernel
theorem dX3_nearest_5 : decode cX3_nearest 5 = .ok (.iconst 0, 1) := by decide +kernel
theorem dX3_nearest_6 : decode cX3_nearest 6 = .ok (.istore 4, 2) := by decide +kernel
theorem dX3_nearest_8 : decode cX3_nearest 8 = .ok (.iload 4, 2) := by decide +kernel
theorem dX3_nearest_10 : decode cX3_nearest 10 = .ok (.aload_n 0, 1) := by decide +kernel
theorem dX3_nearest_11 : decode cX3_nearest 11 = .ok (.getfield 9, 3) := by decide +kernel
theorem dX3_nearest_14 : decode cX3_nearest 14 = .ok (.if_icmp .ge 44, 3) := by decide +kernel
theorem dX3_nearest_17 : decode cX3_nearest 17 = .ok (.aload_n 0, 1) := by decide +kernel
theorem dX3_nearest_18 : decode cX3_nearest 18 = .ok (.getfield 20, 3) := by decide +kernel
theorem dX3_nearest_21 : decode cX3_nearest 21 = .ok (.iload_n 1, 1) := by decide +kernel
theorem dX3_nearest_22 : decode cX3_nearest 22 = .ok (.iload 4, 2) := by decide +kernel
theorem dX3_nearest_24 : decode cX3_nearest 24 = .ok (.invokevirtual 54, 3) := by decide +kernel
theorem dX3_nearest_27 : decode cX3_nearest 27 = .ok (.istore 5, 2) := by decide +kernel
theorem dX3_nearest_29 : decode cX3_nearest 29 = .ok (.iload 5, 2) := by decide +kernel
theorem dX3_nearest_31 : decode cX3_nearest 31 = .ok (.ifCond .le 21, 3) := by decide +kernel
theorem dX3_nearest_34 : decode cX3_nearest 34 = .ok (.iload_n 2, 1) := by decide +kernel
theorem dX3_nearest_35 : decode cX3_nearest 35 = .ok (.bipush (-4), 2) := by decide +kernel
theorem dX3_nearest_37 : decode cX3_nearest 37 = .ok (.if_icmp .eq 9, 3) := by decide +kernel
theorem dX3_nearest_40 : decode cX3_nearest 40 = .ok (.iload 5, 2) := by decide +kernel
theorem dX3_nearest_42 : decode cX3_nearest 42 = .ok (.iload_n 3, 1) := by decide +kernel
theorem dX3_nearest_43 : decode cX3_nearest 43 = .ok (.if_icmp .ge 9, 3) := by decide +kernel
theorem dX3_nearest_46 : decode cX3_nearest 46 = .ok (.iload 4, 2) := by decide +kernel
theorem dX3_nearest_48 : decode cX3_nearest 48 = .ok (.istore_n 2, 1) := by decide +kernel
theorem dX3_nearest_49 : decode cX3_nearest 49 = .ok (.iload 5, 2) := by decide +kernel
theorem dX3_nearest_51 : decode cX3_nearest 51 = .ok (.istore_n 3, 1) := by decide +kernel
theorem dX3_nearest_52 : decode cX3_nearest 52 = .ok (.iinc 4 1, 3) := by decide +kernel
theorem dX3_nearest_55 : decode cX3_nearest 55 = .ok (.goto (-47), 3) := by decide +kernel
theorem dX3_nearest_58 : decode cX3_nearest 58 = .ok (.iload_n 2, 1) := by decide +kernel
theorem dX3_nearest_59 : decode cX3_nearest 59 = .ok (.ireturn, 1) := by decide +kernel
theorem dX3_howMany_0 : decode cX3_howMany 0 = .ok (.iconst 0, 1) := by decide +kernel
theorem dX3_howMany_1 : decode cX3_howMany 1 = .ok (.istore_n 1, 1) := by decide +kernel
theorem dX3_howMany_2 : decode cX3_howMany 2 = .ok (.iconst 0, 1) := by decide +kernel
theorem dX3_howMany_3 : decode cX3_howMany 3 = .ok (.istore_n 2, 1) := by decide +kernel
theorem dX3_howMany_4 : decode cX3_howMany 4 = .ok (.iload_n 2, 1) := by decide +kernel
theorem dX3_howMany_5 : decode cX3_howMany 5 = .ok (.aload_n 0, 1) := by decide +kernel
theorem dX3_howMany_6 : decode cX3_howMany 6 = .ok (.getfield 9, 3) := by decide +kernel
theorem dX3_howMany_9 : decode cX3_howMany 9 = .ok (.if_icmp .ge 42, 3) := by decide +kernel
theorem dX3_howMany_12 : decode cX3_howMany 12 = .ok (.iload_n 2, 1) := by decide +kernel
theorem dX3_howMany_13 : decode cX3_howMany 13 = .ok (.iconst 1, 1) := by decide +kernel
theorem dX3_howMany_14 : decode cX3_howMany 14 = .ok (.iadd, 1) := by decide +kernel
theorem dX3_howMany_15 : decode cX3_howMany 15 = .ok (.istore_n 3, 1) := by decide +kernel
theorem dX3_howMany_16 : decode cX3_howMany 16 = .ok (.iload_n 3, 1) := by decide +kernel
theorem dX3_howMany_17 : decode cX3_howMany 17 = .ok (.aload_n 0, 1) := by decide +kernel
theorem dX3_howMany_18 : decode cX3_howMany 18 = .ok (.getfield 9, 3) := by decide +kernel
theorem dX3_howMany_21 : decode cX3_howMany 21 = .ok (.if_icmp .ge 24, 3) := by decide +kernel
theorem dX3_howMany_24 : decode cX3_howMany 24 = .ok (.aload_n 0, 1) := by decide +kernel
theorem dX3_howMany_25 : decode cX3_howMany 25 = .ok (.getfield 20, 3) := by decide +kernel
theorem dX3_howMany_28 : decode cX3_howMany 28 = .ok (.iload_n 2, 1) := by decide +kernel
theorem dX3_howMany_29 : decode cX3_howMany 29 = .ok (.iload_n 3, 1) := by decide +kernel
theorem dX3_howMany_30 : decode cX3_howMany 30 = .ok (.invokevirtual 54, 3) := by decide +kernel
theorem dX3_howMany_33 : decode cX3_howMany 33 = .ok (.ifCond .le 6, 3) := by decide +kernel
theorem dX3_howMany_36 : decode cX3_howMany 36 = .ok (.iinc 1 1, 3) := by decide +kernel
theorem dX3_howMany_39 : decode cX3_howMany 39 = .ok (.iinc 3 1, 3) := by decide +kernel
theorem dX3_howMany_42 : decode cX3_howMany 42 = .ok (.goto (-26), 3) := by decide +kernel
theorem dX3_howMany_45 : decode cX3_howMany 45 = .ok (.iinc 2 1, 3) := by decide +kernel
theorem dX3_howMany_48 : decode cX3_howMany 48 = .ok (.goto (-44), 3) := by decide +kernel
theorem dX3_howMany_51 : decode cX3_howMany 51 = .ok (.iload_n 1, 1) := by decide +kernel
theorem dX3_howMany_52 : decode cX3_howMany 52 = .ok (.ireturn, 1) := by decide +kernel
theorem dX3_milesOfAll_0 : decode cX3_milesOfAll 0 = .ok (.iconst 0, 1) := by decide +kernel
theorem dX3_milesOfAll_1 : decode cX3_milesOfAll 1 = .ok (.istore_n 1, 1) := by decide +kernel
theorem dX3_milesOfAll_2 : decode cX3_milesOfAll 2 = .ok (.iconst 0, 1) := by decide +kernel
theorem dX3_milesOfAll_3 : decode cX3_milesOfAll 3 = .ok (.istore_n 2, 1) := by decide +kernel
theorem dX3_milesOfAll_4 : decode cX3_milesOfAll 4 = .ok (.iload_n 2, 1) := by decide +kernel
theorem dX3_milesOfAll_5 : decode cX3_milesOfAll 5 = .ok (.aload_n 0, 1) := by decide +kernel
theorem dX3_milesOfAll_6 : decode cX3_milesOfAll 6 = .ok (.getfield 9, 3) := by decide +kernel
theorem dX3_milesOfAll_9 : decode cX3_milesOfAll 9 = .ok (.if_icmp .ge 39, 3) := by decide +kernel
theorem dX3_milesOfAll_12 : decode cX3_milesOfAll 12 = .ok (.iload_n 2, 1) := by decide +kernel
theorem dX3_milesOfAll_13 : decode cX3_milesOfAll 13 = .ok (.iconst 1, 1) := by decide +kernel
theorem dX3_milesOfAll_14 : decode cX3_milesOfAll 14 = .ok (.iadd, 1) := by decide +kernel
theorem dX3_milesOfAll_15 : decode cX3_milesOfAll 15 = .ok (.istore_n 3, 1) := by decide +kernel
theorem dX3_milesOfAll_16 : decode cX3_milesOfAll 16 = .ok (.iload_n 3, 1) := by decide +kernel
theorem dX3_milesOfAll_17 : decode cX3_milesOfAll 17 = .ok (.aload_n 0, 1) := by decide +kernel
theorem dX3_milesOfAll_18 : decode cX3_milesOfAll 18 = .ok (.getfield 9, 3) := by decide +kernel
theorem dX3_milesOfAll_21 : decode cX3_milesOfAll 21 = .ok (.if_icmp .ge 21, 3) := by decide +kernel
theorem dX3_milesOfAll_24 : decode cX3_milesOfAll 24 = .ok (.iload_n 1, 1) := by decide +kernel
theorem dX3_milesOfAll_25 : decode cX3_milesOfAll 25 = .ok (.aload_n 0, 1) := by decide +kernel
theorem dX3_milesOfAll_26 : decode cX3_milesOfAll 26 = .ok (.getfield 20, 3) := by decide +kernel
theorem dX3_milesOfAll_29 : decode cX3_milesOfAll 29 = .ok (.iload_n 2, 1) := by decide +kernel
theorem dX3_milesOfAll_30 : decode cX3_milesOfAll 30 = .ok (.iload_n 3, 1) := by decide +kernel
theorem dX3_milesOfAll_31 : decode cX3_milesOfAll 31 = .ok (.invokevirtual 54, 3) := by decide +kernel
theorem dX3_milesOfAll_34 : decode cX3_milesOfAll 34 = .ok (.iadd, 1) := by decide +kernel
theorem dX3_milesOfAll_35 : decode cX3_milesOfAll 35 = .ok (.istore_n 1, 1) := by decide +kernel
theorem dX3_milesOfAll_36 : decode cX3_milesOfAll 36 = .ok (.iinc 3 1, 3) := by decide +kernel
theorem dX3_milesOfAll_39 : decode cX3_milesOfAll 39 = .ok (.goto (-23), 3) := by decide +kernel
theorem dX3_milesOfAll_42 : decode cX3_milesOfAll 42 = .ok (.iinc 2 1, 3) := by decide +kernel
theorem dX3_milesOfAll_45 : decode cX3_milesOfAll 45 = .ok (.goto (-41), 3) := by decide +kernel
theorem dX3_milesOfAll_48 : decode cX3_milesOfAll 48 = .ok (.iload_n 1, 1) := by decide +kernel
theorem dX3_milesOfAll_49 : decode cX3_milesOfAll 49 = .ok (.ireturn, 1) := by decide +kernel
theorem dX4_init_0 : decode cX4_init 0 = .ok (.aload_n 0, 1) := by decide +kernel
theorem dX4_init_1 : decode cX4_init 1 = .ok (.invokespecial 3, 3) := by decide +kernel
theorem dX4_init_4 : decode cX4_init 4 = .ok (.aload_n 0, 1) := by decide +kernel
theorem dX4_init_5 : decode cX4_init 5 = .ok (.iconst 1, 1) := by decide +kernel
theorem dX4_init_6 : decode cX4_init 6 = .ok (.iload_n 1, 1) := by decide +kernel
theorem dX4_init_7 : decode cX4_init 7 = .ok (.bipush 8, 2) := by decide +kernel
theorem dX4_init_9 : decode cX4_init 9 = .ok (.invokestatic 9, 3) := by decide +kernel
theorem dX4_init_12 : decode cX4_init 12 = .ok (.invokestatic 15, 3) := by decide +kernel
theorem dX4_init_15 : decode cX4_init 15 = .ok (.anewarray 18, 3) := by decide +kernel
theorem dX4_init_18 : decode cX4_init 18 = .ok (.putfield 20, 3) := by decide +kernel
theorem dX4_init_21 : decode cX4_init 21 = .ok (.iconst 0, 1) := by decide +kernel
theorem dX4_init_22 : decode cX4_init 22 = .ok (.istore_n 2, 1) := by decide +kernel
theorem dX4_init_23 : decode cX4_init 23 = .ok (.iload_n 2, 1) := by decide +kernel
theorem dX4_init_24 : decode cX4_init 24 = .ok (.aload_n 0, 1) := by decide +kernel
theorem dX4_init_25 : decode cX4_init 25 = .ok (.getfield 20, 3) := by decide +kernel
theorem dX4_init_28 : decode cX4_init 28 = .ok (.arraylength, 1) := by decide +kernel
theorem dX4_init_29 : decode cX4_init 29 = .ok (.if_icmp .ge 22, 3) := by decide +kernel
theorem dX4_init_32 : decode cX4_init 32 = .ok (.aload_n 0, 1) := by decide +kernel
theorem dX4_init_33 : decode cX4_init 33 = .ok (.getfield 20, 3) := by decide +kernel
theorem dX4_init_36 : decode cX4_init 36 = .ok (.iload_n 2, 1) := by decide +kernel
theorem dX4_init_37 : decode cX4_init 37 = .ok (.new 18, 3) := by decide +kernel
theorem dX4_init_40 : decode cX4_init 40 = .ok (.dup, 1) := by decide +kernel
theorem dX4_init_41 : decode cX4_init 41 = .ok (.invokespecial 26, 3) := by decide +kernel
theorem dX4_init_44 : decode cX4_init 44 = .ok (.aastore, 1) := by decide +kernel
theorem dX4_init_45 : decode cX4_init 45 = .ok (.iinc 2 1, 3) := by decide +kernel
theorem dX4_init_48 : decode cX4_init 48 = .ok (.goto (-25), 3) := by decide +kernel
theorem dX4_init_51 : decode cX4_init 51 = .ok (.return_, 1) := by decide +kernel
theorem dX4_held_0 : decode cX4_held 0 = .ok (.aload_n 0, 1) := by decide +kernel
theorem dX4_held_1 : decode cX4_held 1 = .ok (.getfield 27, 3) := by decide +kernel
theorem dX4_held_4 : decode cX4_held 4 = .ok (.ireturn, 1) := by decide +kernel
theorem dX4_empty_0 : decode cX4_empty 0 = .ok (.aload_n 0, 1) := by decide +kernel
theorem dX4_empty_1 : decode cX4_empty 1 = .ok (.iconst 0, 1) := by decide +kernel
theorem dX4_empty_2 : decode cX4_empty 2 = .ok (.putfield 27, 3) := by decide +kernel
theorem dX4_empty_5 : decode cX4_empty 5 = .ok (.return_, 1) := by decide +kernel
theorem dX4_setAside_0 : decode cX4_setAside 0 = .ok (.aload_n 0, 1) := by decide +kernel
theorem dX4_setAside_1 : decode cX4_setAside 1 = .ok (.getfield 31, 3) := by decide +kernel
theorem dX4_setAside_4 : decode cX4_setAside 4 = .ok (.ifCond .lt 27, 3) := by decide +kernel
theorem dX4_setAside_7 : decode cX4_setAside 7 = .ok (.aload_n 0, 1) := by decide +kernel
theorem dX4_setAside_8 : decode cX4_setAside 8 = .ok (.getfield 31, 3) := by decide +kernel
theorem dX4_setAside_11 : decode cX4_setAside 11 = .ok (.aload_n 0, 1) := by decide +kernel
theorem dX4_setAside_12 : decode cX4_setAside 12 = .ok (.getfield 20, 3) := by decide +kernel
theorem dX4_setAside_15 : decode cX4_setAside 15 = .ok (.arraylength, 1) := by decide +kernel
theorem dX4_setAside_16 : decode cX4_setAside 16 = .ok (.if_icmp .ge 15, 3) := by decide +kernel
theorem dX4_setAside_19 : decode cX4_setAside 19 = .ok (.aload_n 0, 1) := by decide +kernel
theorem dX4_setAside_20 : decode cX4_setAside 20 = .ok (.getfield 20, 3) := by decide +kernel
theorem dX4_setAside_23 : decode cX4_setAside 23 = .ok (.aload_n 0, 1) := by decide +kernel
theorem dX4_setAside_24 : decode cX4_setAside 24 = .ok (.getfield 31, 3) := by decide +kernel
theorem dX4_setAside_27 : decode cX4_setAside 27 = .ok (.aaload, 1) := by decide +kernel
theorem dX4_setAside_28 : decode cX4_setAside 28 = .ok (.goto 4, 3) := by decide +kernel
theorem dX4_setAside_31 : decode cX4_setAside 31 = .ok (.aconst_null, 1) := by decide +kernel
theorem dX4_setAside_32 : decode cX4_setAside 32 = .ok (.astore_n 2, 1) := by decide +kernel
theorem dX4_setAside_33 : decode cX4_setAside 33 = .ok (.aload_n 2, 1) := by decide +kernel
theorem dX4_setAside_34 : decode cX4_setAside 34 = .ok (.ifnull 54, 3) := by decide +kernel
theorem dX4_setAside_37 : decode cX4_setAside 37 = .ok (.aload_n 2, 1) := by decide +kernel
theorem dX4_setAside_38 : decode cX4_setAside 38 = .ok (.aload_n 1, 1) := by decide +kernel
theorem dX4_setAside_39 : decode cX4_setAside 39 = .ok (.invokevirtual 34, 3) := by decide +kernel
theorem dX4_setAside_42 : decode cX4_setAside 42 = .ok (.aload_n 0, 1) := by decide +kernel
theorem dX4_setAside_43 : decode cX4_setAside 43 = .ok (.aload_n 0, 1) := by decide +kernel
theorem dX4_setAside_44 : decode cX4_setAside 44 = .ok (.getfield 31, 3) := by decide +kernel
theorem dX4_setAside_47 : decode cX4_setAside 47 = .ok (.iconst 1, 1) := by decide +kernel
theorem dX4_setAside_48 : decode cX4_setAside 48 = .ok (.iadd, 1) := by decide +kernel
theorem dX4_setAside_49 : decode cX4_setAside 49 = .ok (.aload_n 0, 1) := by decide +kernel
theorem dX4_setAside_50 : decode cX4_setAside 50 = .ok (.getfield 20, 3) := by decide +kernel
theorem dX4_setAside_53 : decode cX4_setAside 53 = .ok (.arraylength, 1) := by decide +kernel
theorem dX4_setAside_54 : decode cX4_setAside 54 = .ok (.if_icmp .ge 12, 3) := by decide +kernel
theorem dX4_setAside_57 : decode cX4_setAside 57 = .ok (.aload_n 0, 1) := by decide +kernel
theorem dX4_setAside_58 : decode cX4_setAside 58 = .ok (.getfield 31, 3) := by decide +kernel
theorem dX4_setAside_61 : decode cX4_setAside 61 = .ok (.iconst 1, 1) := by decide +kernel
theorem dX4_setAside_62 : decode cX4_setAside 62 = .ok (.iadd, 1) := by decide +kernel
theorem dX4_setAside_63 : decode cX4_setAside 63 = .ok (.goto 4, 3) := by decide +kernel
theorem dX4_setAside_66 : decode cX4_setAside 66 = .ok (.iconst 0, 1) := by decide +kernel
theorem dX4_setAside_67 : decode cX4_setAside 67 = .ok (.putfield 31, 3) := by decide +kernel
theorem dX4_setAside_70 : decode cX4_setAside 70 = .ok (.aload_n 0, 1) := by decide +kernel
theorem dX4_setAside_71 : decode cX4_setAside 71 = .ok (.aload_n 0, 1) := by decide +kernel
theorem dX4_setAside_72 : decode cX4_setAside 72 = .ok (.getfield 27, 3) := by decide +kernel
theorem dX4_setAside_75 : decode cX4_setAside 75 = .ok (.iconst 1, 1) := by decide +kernel
theorem dX4_setAside_76 : decode cX4_setAside 76 = .ok (.iadd, 1) := by decide +kernel
theorem dX4_setAside_77 : decode cX4_setAside 77 = .ok (.aload_n 0, 1) := by decide +kernel
theorem dX4_setAside_78 : decode cX4_setAside 78 = .ok (.getfield 20, 3) := by decide +kernel
theorem dX4_setAside_81 : decode cX4_setAside 81 = .ok (.arraylength, 1) := by decide +kernel
theorem dX4_setAside_82 : decode cX4_setAside 82 = .ok (.invokestatic 9, 3) := by decide +kernel
theorem dX4_setAside_85 : decode cX4_setAside 85 = .ok (.putfield 27, 3) := by decide +kernel
theorem dX4_setAside_88 : decode cX4_setAside 88 = .ok (.return_, 1) := by decide +kernel
theorem dX4_giveBack_0 : decode cX4_giveBack 0 = .ok (.aload_n 0, 1) := by decide +kernel
theorem dX4_giveBack_1 : decode cX4_giveBack 1 = .ok (.getfield 31, 3) := by decide +kernel
theorem dX4_giveBack_4 : decode cX4_giveBack 4 = .ok (.ifCond .le 12, 3) := by decide +kernel
theorem dX4_giveBack_7 : decode cX4_giveBack 7 = .ok (.aload_n 0, 1) := by decide +kernel
theorem dX4_giveBack_8 : decode cX4_giveBack 8 = .ok (.getfield 31, 3) := by decide +kernel
theorem dX4_giveBack_11 : decode cX4_giveBack 11 = .ok (.iconst 1, 1) := by decide +kernel
theorem dX4_giveBack_12 : decode cX4_giveBack 12 = .ok (.isub, 1) := by decide +kernel
theorem dX4_giveBack_13 : decode cX4_giveBack 13 = .ok (.goto 10, 3) := by decide +kernel
theorem dX4_giveBack_16 : decode cX4_giveBack 16 = .ok (.aload_n 0, 1) := by decide +kernel
theorem dX4_giveBack_17 : decode cX4_giveBack 17 = .ok (.getfield 20, 3) := by decide +kernel
theorem dX4_giveBack_20 : decode cX4_giveBack 20 = .ok (.arraylength, 1) := by decide +kernel
theorem dX4_giveBack_21 : decode cX4_giveBack 21 = .ok (.iconst 1, 1) := by decide +kernel
theorem dX4_giveBack_22 : decode cX4_giveBack 22 = .ok (.isub, 1) := by decide +kernel
theorem dX4_giveBack_23 : decode cX4_giveBack 23 = .ok (.istore_n 2, 1) := by decide +kernel
theorem dX4_giveBack_24 : decode cX4_giveBack 24 = .ok (.aload_n 0, 1) := by decide +kernel
theorem dX4_giveBack_25 : decode cX4_giveBack 25 = .ok (.getfield 27, 3) := by decide +kernel
theorem dX4_giveBack_28 : decode cX4_giveBack 28 = .ok (.ifCond .le 25, 3) := by decide +kernel
theorem dX4_giveBack_31 : decode cX4_giveBack 31 = .ok (.iload_n 2, 1) := by decide +kernel
theorem dX4_giveBack_32 : decode cX4_giveBack 32 = .ok (.ifCond .lt 21, 3) := by decide +kernel
theorem dX4_giveBack_35 : decode cX4_giveBack 35 = .ok (.iload_n 2, 1) := by decide +kernel
theorem dX4_giveBack_36 : decode cX4_giveBack 36 = .ok (.aload_n 0, 1) := by decide +kernel
theorem dX4_giveBack_37 : decode cX4_giveBack 37 = .ok (.getfield 20, 3) := by decide +kernel
theorem dX4_giveBack_40 : decode cX4_giveBack 40 = .ok (.arraylength, 1) := by decide +kernel
theorem dX4_giveBack_41 : decode cX4_giveBack 41 = .ok (.if_icmp .ge 12, 3) := by decide +kernel
theorem dX4_giveBack_44 : decode cX4_giveBack 44 = .ok (.aload_n 0, 1) := by decide +kernel
theorem dX4_giveBack_45 : decode cX4_giveBack 45 = .ok (.getfield 20, 3) := by decide +kernel
theorem dX4_giveBack_48 : decode cX4_giveBack 48 = .ok (.iload_n 2, 1) := by decide +kernel
theorem dX4_giveBack_49 : decode cX4_giveBack 49 = .ok (.aaload, 1) := by decide +kernel
theorem dX4_giveBack_50 : decode cX4_giveBack 50 = .ok (.goto 4, 3) := by decide +kernel
theorem dX4_giveBack_53 : decode cX4_giveBack 53 = .ok (.aconst_null, 1) := by decide +kernel
theorem dX4_giveBack_54 : decode cX4_giveBack 54 = .ok (.astore_n 3, 1) := by decide +kernel
theorem dX4_giveBack_55 : decode cX4_giveBack 55 = .ok (.aload_n 3, 1) := by decide +kernel
theorem dX4_giveBack_56 : decode cX4_giveBack 56 = .ok (.ifnonnull 5, 3) := by decide +kernel
theorem dX4_giveBack_59 : decode cX4_giveBack 59 = .ok (.iconst 0, 1) := by decide +kernel
theorem dX4_giveBack_60 : decode cX4_giveBack 60 = .ok (.ireturn, 1) := by decide +kernel
theorem dX4_giveBack_61 : decode cX4_giveBack 61 = .ok (.aload_n 1, 1) := by decide +kernel
theorem dX4_giveBack_62 : decode cX4_giveBack 62 = .ok (.aload_n 3, 1) := by decide +kernel
theorem dX4_giveBack_63 : decode cX4_giveBack 63 = .ok (.invokevirtual 34, 3) := by decide +kernel
theorem dX4_giveBack_66 : decode cX4_giveBack 66 = .ok (.aload_n 0, 1) := by decide +kernel
theorem dX4_giveBack_67 : decode cX4_giveBack 67 = .ok (.iload_n 2, 1) := by decide +kernel
theorem dX4_giveBack_68 : decode cX4_giveBack 68 = .ok (.putfield 31, 3) := by decide +kernel
theorem dX4_giveBack_71 : decode cX4_giveBack 71 = .ok (.aload_n 0, 1) := by decide +kernel
theorem dX4_giveBack_72 : decode cX4_giveBack 72 = .ok (.dup, 1) := by decide +kernel
theorem dX4_giveBack_73 : decode cX4_giveBack 73 = .ok (.getfield 27, 3) := by decide +kernel
theorem dX4_giveBack_76 : decode cX4_giveBack 76 = .ok (.iconst 1, 1) := by decide +kernel
theorem dX4_giveBack_77 : decode cX4_giveBack 77 = .ok (.isub, 1) := by decide +kernel
theorem dX4_giveBack_78 : decode cX4_giveBack 78 = .ok (.putfield 27, 3) := by decide +kernel
theorem dX4_giveBack_81 : decode cX4_giveBack 81 = .ok (.iconst 1, 1) := by decide +kernel
theorem dX4_giveBack_82 : decode cX4_giveBack 82 = .ok (.ireturn, 1) := by decide +kernel
theorem dX5_init_0 : decode cX5_init 0 = .ok (.aload_n 0, 1) := by decide +kernel
theorem dX5_init_1 : decode cX5_init 1 = .ok (.invokespecial 3, 3) := by decide +kernel
theorem dX5_init_4 : decode cX5_init 4 = .ok (.aload_n 0, 1) := by decide +kernel
theorem dX5_init_5 : decode cX5_init 5 = .ok (.new 9, 3) := by decide +kernel
theorem dX5_init_8 : decode cX5_init 8 = .ok (.dup, 1) := by decide +kernel
theorem dX5_init_9 : decode cX5_init 9 = .ok (.invokespecial 11, 3) := by decide +kernel
theorem dX5_init_12 : decode cX5_init 12 = .ok (.putfield 12, 3) := by decide +kernel
theorem dX5_init_15 : decode cX5_init 15 = .ok (.aload_n 0, 1) := by decide +kernel
theorem dX5_init_16 : decode cX5_init 16 = .ok (.new 18, 3) := by decide +kernel
theorem dX5_init_19 : decode cX5_init 19 = .ok (.dup, 1) := by decide +kernel
theorem dX5_init_20 : decode cX5_init 20 = .ok (.bipush 8, 2) := by decide +kernel
theorem dX5_init_22 : decode cX5_init 22 = .ok (.iconst 3, 1) := by decide +kernel
theorem dX5_init_23 : decode cX5_init 23 = .ok (.invokespecial 20, 3) := by decide +kernel
theorem dX5_init_26 : decode cX5_init 26 = .ok (.putfield 23, 3) := by decide +kernel
theorem dX5_init_29 : decode cX5_init 29 = .ok (.aload_n 0, 1) := by decide +kernel
theorem dX5_init_30 : decode cX5_init 30 = .ok (.new 18, 3) := by decide +kernel
theorem dX5_init_33 : decode cX5_init 33 = .ok (.dup, 1) := by decide +kernel
theorem dX5_init_34 : decode cX5_init 34 = .ok (.bipush 8, 2) := by decide +kernel
theorem dX5_init_36 : decode cX5_init 36 = .ok (.bipush 8, 2) := by decide +kernel
theorem dX5_init_38 : decode cX5_init 38 = .ok (.invokespecial 20, 3) := by decide +kernel
theorem dX5_init_41 : decode cX5_init 41 = .ok (.putfield 27, 3) := by decide +kernel
theorem dX5_init_44 : decode cX5_init 44 = .ok (.aload_n 0, 1) := by decide +kernel
theorem dX5_init_45 : decode cX5_init 45 = .ok (.new 18, 3) := by decide +kernel
theorem dX5_init_48 : decode cX5_init 48 = .ok (.dup, 1) := by decide +kernel
theorem dX5_init_49 : decode cX5_init 49 = .ok (.bipush 8, 2) := by decide +kernel
theorem dX5_init_51 : decode cX5_init 51 = .ok (.bipush 8, 2) := by decide +kernel
theorem dX5_init_53 : decode cX5_init 53 = .ok (.invokespecial 20, 3) := by decide +kernel
theorem dX5_init_56 : decode cX5_init 56 = .ok (.putfield 30, 3) := by decide +kernel
theorem dX5_init_59 : decode cX5_init 59 = .ok (.aload_n 0, 1) := by decide +kernel
theorem dX5_init_60 : decode cX5_init 60 = .ok (.new 18, 3) := by decide +kernel
theorem dX5_init_63 : decode cX5_init 63 = .ok (.dup, 1) := by decide +kernel
theorem dX5_init_64 : decode cX5_init 64 = .ok (.iconst 5, 1) := by decide +kernel
theorem dX5_init_65 : decode cX5_init 65 = .ok (.iconst 2, 1) := by decide +kernel
theorem dX5_init_66 : decode cX5_init 66 = .ok (.invokespecial 20, 3) := by decide +kernel
theorem dX5_init_69 : decode cX5_init 69 = .ok (.putfield 33, 3) := by decide +kernel
theorem dX5_init_72 : decode cX5_init 72 = .ok (.return_, 1) := by decide +kernel
theorem dX5_become_0 : decode cX5_become 0 = .ok (.aload_n 0, 1) := by decide +kernel
theorem dX5_become_1 : decode cX5_become 1 = .ok (.getfield 12, 3) := by decide +kernel
theorem dX5_become_4 : decode cX5_become 4 = .ok (.aload_n 1, 1) := by decide +kernel
theorem dX5_become_5 : decode cX5_become 5 = .ok (.getfield 12, 3) := by decide +kernel
theorem dX5_become_8 : decode cX5_become 8 = .ok (.invokevirtual 36, 3) := by decide +kernel
theorem dX5_become_11 : decode cX5_become 11 = .ok (.aload_n 0, 1) := by decide +kernel
theorem dX5_become_12 : decode cX5_become 12 = .ok (.getfield 23, 3) := by decide +kernel
theorem dX5_become_15 : decode cX5_become 15 = .ok (.aload_n 1, 1) := by decide +kernel
theorem dX5_become_16 : decode cX5_become 16 = .ok (.getfield 23, 3) := by decide +kernel
theorem dX5_become_19 : decode cX5_become 19 = .ok (.invokevirtual 40, 3) := by decide +kernel
theorem dX5_become_22 : decode cX5_become 22 = .ok (.aload_n 0, 1) := by decide +kernel
theorem dX5_become_23 : decode cX5_become 23 = .ok (.getfield 27, 3) := by decide +kernel
theorem dX5_become_26 : decode cX5_become 26 = .ok (.aload_n 1, 1) := by decide +kernel
theorem dX5_become_27 : decode cX5_become 27 = .ok (.getfield 27, 3) := by decide +kernel
theorem dX5_become_30 : decode cX5_become 30 = .ok (.invokevirtual 40, 3) := by decide +kernel
theorem dX5_become_33 : decode cX5_become 33 = .ok (.aload_n 0, 1) := by decide +kernel
theorem dX5_become_34 : decode cX5_become 34 = .ok (.getfield 30, 3) := by decide +kernel
theorem dX5_become_37 : decode cX5_become 37 = .ok (.aload_n 1, 1) := by decide +kernel
theorem dX5_become_38 : decode cX5_become 38 = .ok (.getfield 30, 3) := by decide +kernel
theorem dX5_become_41 : decode cX5_become 41 = .ok (.invokevirtual 40, 3) := by decide +kernel
theorem dX5_become_44 : decode cX5_become 44 = .ok (.aload_n 0, 1) := by decide +kernel
theorem dX5_become_45 : decode cX5_become 45 = .ok (.getfield 33, 3) := by decide +kernel
theorem dX5_become_48 : decode cX5_become 48 = .ok (.aload_n 1, 1) := by decide +kernel
theorem dX5_become_49 : decode cX5_become 49 = .ok (.getfield 33, 3) := by decide +kernel
theorem dX5_become_52 : decode cX5_become 52 = .ok (.invokevirtual 40, 3) := by decide +kernel
theorem dX5_become_55 : decode cX5_become 55 = .ok (.aload_n 0, 1) := by decide +kernel
theorem dX5_become_56 : decode cX5_become 56 = .ok (.aload_n 1, 1) := by decide +kernel
theorem dX5_become_57 : decode cX5_become 57 = .ok (.getfield 43, 3) := by decide +kernel
theorem dX5_become_60 : decode cX5_become 60 = .ok (.putfield 43, 3) := by decide +kernel
theorem dX5_become_63 : decode cX5_become 63 = .ok (.aload_n 0, 1) := by decide +kernel
theorem dX5_become_64 : decode cX5_become 64 = .ok (.aload_n 1, 1) := by decide +kernel
theorem dX5_become_65 : decode cX5_become 65 = .ok (.getfield 47, 3) := by decide +kernel
theorem dX5_become_68 : decode cX5_become 68 = .ok (.putfield 47, 3) := by decide +kernel
theorem dX5_become_71 : decode cX5_become 71 = .ok (.aload_n 0, 1) := by decide +kernel
theorem dX5_become_72 : decode cX5_become 72 = .ok (.aload_n 1, 1) := by decide +kernel
theorem dX5_become_73 : decode cX5_become 73 = .ok (.getfield 50, 3) := by decide +kernel
theorem dX5_become_76 : decode cX5_become 76 = .ok (.putfield 50, 3) := by decide +kernel
theorem dX5_become_79 : decode cX5_become 79 = .ok (.aload_n 0, 1) := by decide +kernel
theorem dX5_become_80 : decode cX5_become 80 = .ok (.aload_n 1, 1) := by decide +kernel
theorem dX5_become_81 : decode cX5_become 81 = .ok (.getfield 53, 3) := by decide +kernel
theorem dX5_become_84 : decode cX5_become 84 = .ok (.putfield 53, 3) := by decide +kernel
theorem dX5_become_87 : decode cX5_become 87 = .ok (.aload_n 0, 1) := by decide +kernel
theorem dX5_become_88 : decode cX5_become 88 = .ok (.aload_n 1, 1) := by decide +kernel
theorem dX5_become_89 : decode cX5_become 89 = .ok (.getfield 56, 3) := by decide +kernel
theorem dX5_become_92 : decode cX5_become 92 = .ok (.putfield 56, 3) := by decide +kernel
theorem dX5_become_95 : decode cX5_become 95 = .ok (.return_, 1) := by decide +kernel
theorem dX5_clear_0 : decode cX5_clear 0 = .ok (.aload_n 0, 1) := by decide +kernel
theorem dX5_clear_1 : decode cX5_clear 1 = .ok (.getfield 12, 3) := by decide +kernel
theorem dX5_clear_4 : decode cX5_clear 4 = .ok (.bipush 6, 2) := by decide +kernel
theorem dX5_clear_6 : decode cX5_clear 6 = .ok (.invokevirtual 59, 3) := by decide +kernel
theorem dX5_clear_9 : decode cX5_clear 9 = .ok (.aload_n 0, 1) := by decide +kernel
theorem dX5_clear_10 : decode cX5_clear 10 = .ok (.iconst 0, 1) := by decide +kernel
theorem dX5_clear_11 : decode cX5_clear 11 = .ok (.putfield 43, 3) := by decide +kernel
theorem dX5_clear_14 : decode cX5_clear 14 = .ok (.aload_n 0, 1) := by decide +kernel
theorem dX5_clear_15 : decode cX5_clear 15 = .ok (.iconst 0, 1) := by decide +kernel
theorem dX5_clear_16 : decode cX5_clear 16 = .ok (.putfield 47, 3) := by decide +kernel
theorem dX5_clear_19 : decode cX5_clear 19 = .ok (.aload_n 0, 1) := by decide +kernel
theorem dX5_clear_20 : decode cX5_clear 20 = .ok (.iconst 0, 1) := by decide +kernel
theorem dX5_clear_21 : decode cX5_clear 21 = .ok (.putfield 50, 3) := by decide +kernel
theorem dX5_clear_24 : decode cX5_clear 24 = .ok (.aload_n 0, 1) := by decide +kernel
theorem dX5_clear_25 : decode cX5_clear 25 = .ok (.iconst 0, 1) := by decide +kernel
theorem dX5_clear_26 : decode cX5_clear 26 = .ok (.putfield 53, 3) := by decide +kernel
theorem dX5_clear_29 : decode cX5_clear 29 = .ok (.aload_n 0, 1) := by decide +kernel
theorem dX5_clear_30 : decode cX5_clear 30 = .ok (.iconst 0, 1) := by decide +kernel
theorem dX5_clear_31 : decode cX5_clear 31 = .ok (.putfield 56, 3) := by decide +kernel
theorem dX5_clear_34 : decode cX5_clear 34 = .ok (.return_, 1) := by decide +kernel
theorem dX5_tellTowns_0 : decode cX5_tellTowns 0 = .ok (.iload_n 1, 1) := by decide +kernel
theorem dX5_tellTowns_1 : decode cX5_tellTowns 1 = .ok (.iconst 2, 1) := by decide +kernel
theorem dX5_tellTowns_2 : decode cX5_tellTowns 2 = .ok (.if_icmp .lt 9, 3) := by decide +kernel
theorem dX5_tellTowns_5 : decode cX5_tellTowns 5 = .ok (.iload_n 1, 1) := by decide +kernel
theorem dX5_tellTowns_6 : decode cX5_tellTowns 6 = .ok (.bipush 8, 2) := by decide +kernel
theorem dX5_tellTowns_8 : decode cX5_tellTowns 8 = .ok (.if_icmp .le 5, 3) := by decide +kernel
theorem dX5_tellTowns_11 : decode cX5_tellTowns 11 = .ok (.iconst 0, 1) := by decide +kernel
theorem dX5_tellTowns_12 : decode cX5_tellTowns 12 = .ok (.ireturn, 1) := by decide +kernel
theorem dX5_tellTowns_13 : decode cX5_tellTowns 13 = .ok (.aload_n 0, 1) := by decide +kernel
theorem dX5_tellTowns_14 : decode cX5_tellTowns 14 = .ok (.getfield 12, 3) := by decide +kernel
theorem dX5_tellTowns_17 : decode cX5_tellTowns 17 = .ok (.iload_n 1, 1) := by decide +kernel
theorem dX5_tellTowns_18 : decode cX5_tellTowns 18 = .ok (.invokevirtual 59, 3) := by decide +kernel
theorem dX5_tellTowns_21 : decode cX5_tellTowns 21 = .ok (.iconst 1, 1) := by decide +kernel
theorem dX5_tellTowns_22 : decode cX5_tellTowns 22 = .ok (.ireturn, 1) := by decide +kernel
theorem dX5_tellRoad_0 : decode cX5_tellRoad 0 = .ok (.aload_n 0, 1) := by decide +kernel
theorem dX5_tellRoad_1 : decode cX5_tellRoad 1 = .ok (.iload_n 1, 1) := by decide +kernel
theorem dX5_tellRoad_2 : decode cX5_tellRoad 2 = .ok (.iload_n 2, 1) := by decide +kernel
theorem dX5_tellRoad_3 : decode cX5_tellRoad 3 = .ok (.invokevirtual 63, 3) := by decide +kernel
theorem dX5_tellRoad_6 : decode cX5_tellRoad 6 = .ok (.ifCond .eq 14, 3) := by decide +kernel
theorem dX5_tellRoad_9 : decode cX5_tellRoad 9 = .ok (.iload_n 3, 1) := by decide +kernel
theorem dX5_tellRoad_10 : decode cX5_tellRoad 10 = .ok (.iconst 1, 1) := by decide +kernel
theorem dX5_tellRoad_11 : decode cX5_tellRoad 11 = .ok (.if_icmp .lt 9, 3) := by decide +kernel
theorem dX5_tellRoad_14 : decode cX5_tellRoad 14 = .ok (.iload_n 3, 1) := by decide +kernel
theorem dX5_tellRoad_15 : decode cX5_tellRoad 15 = .ok (.bipush 9, 2) := by decide +kernel
theorem dX5_tellRoad_17 : decode cX5_tellRoad 17 = .ok (.if_icmp .le 5, 3) := by decide +kernel
theorem dX5_tellRoad_20 : decode cX5_tellRoad 20 = .ok (.iconst 0, 1) := by decide +kernel
theorem dX5_tellRoad_21 : decode cX5_tellRoad 21 = .ok (.ireturn, 1) := by decide +kernel
theorem dX5_tellRoad_22 : decode cX5_tellRoad 22 = .ok (.aload_n 0, 1) := by decide +kernel
theorem dX5_tellRoad_23 : decode cX5_tellRoad 23 = .ok (.getfield 12, 3) := by decide +kernel
theorem dX5_tellRoad_26 : decode cX5_tellRoad 26 = .ok (.iload_n 1, 1) := by decide +kernel
theorem dX5_tellRoad_27 : decode cX5_tellRoad 27 = .ok (.iload_n 2, 1) := by decide +kernel
theorem dX5_tellRoad_28 : decode cX5_tellRoad 28 = .ok (.iload_n 3, 1) := by decide +kernel
theorem dX5_tellRoad_29 : decode cX5_tellRoad 29 = .ok (.invokevirtual 67, 3) := by decide +kernel
theorem dX5_tellRoad_32 : decode cX5_tellRoad 32 = .ok (.iconst 1, 1) := by decide +kernel
theorem dX5_tellRoad_33 : decode cX5_tellRoad 33 = .ok (.ireturn, 1) := by decide +kernel
theorem dX5_tellPost_0 : decode cX5_tellPost 0 = .ok (.iload_n 1, 1) := by decide +kernel
theorem dX5_tellPost_1 : decode cX5_tellPost 1 = .ok (.ifCond .lt 30, 3) := by decide +kernel
theorem dX5_tellPost_4 : decode cX5_tellPost 4 = .ok (.iload_n 1, 1) := by decide +kernel
theorem dX5_tellPost_5 : decode cX5_tellPost 5 = .ok (.iconst 4, 1) := by decide +kernel
theorem dX5_tellPost_6 : decode cX5_tellPost 6 = .ok (.if_icmp .ge 25, 3) := by decide +kernel
theorem dX5_tellPost_9 : decode cX5_tellPost 9 = .ok (.aload_n 0, 1) := by decide +kernel
theorem dX5_tellPost_10 : decode cX5_tellPost 10 = .ok (.iload_n 2, 1) := by decide +kernel
theorem dX5_tellPost_11 : decode cX5_tellPost 11 = .ok (.invokevirtual 71, 3) := by decide +kernel
theorem dX5_tellPost_14 : decode cX5_tellPost 14 = .ok (.ifCond .eq 17, 3) := by decide +kernel
theorem dX5_tellPost_17 : decode cX5_tellPost 17 = .ok (.iload_n 3, 1) := by decide +kernel
theorem dX5_tellPost_18 : decode cX5_tellPost 18 = .ok (.ifCond .lt 13, 3) := by decide +kernel
theorem dX5_tellPost_21 : decode cX5_tellPost 21 = .ok (.iload_n 3, 1) := by decide +kernel
theorem dX5_tellPost_22 : decode cX5_tellPost 22 = .ok (.bipush 59, 2) := by decide +kernel
theorem dX5_tellPost_24 : decode cX5_tellPost 24 = .ok (.if_icmp .gt 7, 3) := by decide +kernel
theorem dX5_tellPost_27 : decode cX5_tellPost 27 = .ok (.iconst 1, 1) := by decide +kernel
theorem dX5_tellPost_28 : decode cX5_tellPost 28 = .ok (.goto 4, 3) := by decide +kernel
theorem dX5_tellPost_31 : decode cX5_tellPost 31 = .ok (.iconst 0, 1) := by decide +kernel
theorem dX5_tellPost_32 : decode cX5_tellPost 32 = .ok (.istore 4, 2) := by decide +kernel
theorem dX5_tellPost_34 : decode cX5_tellPost 34 = .ok (.iload 4, 2) := by decide +kernel
theorem dX5_tellPost_36 : decode cX5_tellPost 36 = .ok (.ifCond .eq 12, 3) := by decide +kernel
theorem dX5_tellPost_39 : decode cX5_tellPost 39 = .ok (.aload_n 0, 1) := by decide +kernel
theorem dX5_tellPost_40 : decode cX5_tellPost 40 = .ok (.getfield 43, 3) := by decide +kernel
theorem dX5_tellPost_43 : decode cX5_tellPost 43 = .ok (.bipush 6, 2) := by decide +kernel
theorem dX5_tellPost_45 : decode cX5_tellPost 45 = .ok (.if_icmp .lt 5, 3) := by decide +kernel
theorem dX5_tellPost_48 : decode cX5_tellPost 48 = .ok (.iconst 0, 1) := by decide +kernel
theorem dX5_tellPost_49 : decode cX5_tellPost 49 = .ok (.ireturn, 1) := by decide +kernel
theorem dX5_tellPost_50 : decode cX5_tellPost 50 = .ok (.aload_n 0, 1) := by decide +kernel
theorem dX5_tellPost_51 : decode cX5_tellPost 51 = .ok (.getfield 23, 3) := by decide +kernel
theorem dX5_tellPost_54 : decode cX5_tellPost 54 = .ok (.aload_n 0, 1) := by decide +kernel
theorem dX5_tellPost_55 : decode cX5_tellPost 55 = .ok (.getfield 43, 3) := by decide +kernel
theorem dX5_tellPost_58 : decode cX5_tellPost 58 = .ok (.iconst 0, 1) := by decide +kernel
theorem dX5_tellPost_59 : decode cX5_tellPost 59 = .ok (.iload_n 1, 1) := by decide +kernel
theorem dX5_tellPost_60 : decode cX5_tellPost 60 = .ok (.invokevirtual 75, 3) := by decide +kernel
theorem dX5_tellPost_63 : decode cX5_tellPost 63 = .ok (.aload_n 0, 1) := by decide +kernel
theorem dX5_tellPost_64 : decode cX5_tellPost 64 = .ok (.getfield 23, 3) := by decide +kernel
theorem dX5_tellPost_67 : decode cX5_tellPost 67 = .ok (.aload_n 0, 1) := by decide +kernel
theorem dX5_tellPost_68 : decode cX5_tellPost 68 = .ok (.getfield 43, 3) := by decide +kernel
theorem dX5_tellPost_71 : decode cX5_tellPost 71 = .ok (.iconst 1, 1) := by decide +kernel
theorem dX5_tellPost_72 : decode cX5_tellPost 72 = .ok (.iload_n 2, 1) := by decide +kernel
theorem dX5_tellPost_73 : decode cX5_tellPost 73 = .ok (.invokevirtual 75, 3) := by decide +kernel
theorem dX5_tellPost_76 : decode cX5_tellPost 76 = .ok (.aload_n 0, 1) := by decide +kernel
theorem dX5_tellPost_77 : decode cX5_tellPost 77 = .ok (.getfield 23, 3) := by decide +kernel
theorem dX5_tellPost_80 : decode cX5_tellPost 80 = .ok (.aload_n 0, 1) := by decide +kernel
theorem dX5_tellPost_81 : decode cX5_tellPost 81 = .ok (.getfield 43, 3) := by decide +kernel
theorem dX5_tellPost_84 : decode cX5_tellPost 84 = .ok (.iconst 2, 1) := by decide +kernel
theorem dX5_tellPost_85 : decode cX5_tellPost 85 = .ok (.iload_n 3, 1) := by decide +kernel
theorem dX5_tellPost_86 : decode cX5_tellPost 86 = .ok (.invokevirtual 75, 3) := by decide +kernel
theorem dX5_tellPost_89 : decode cX5_tellPost 89 = .ok (.aload_n 0, 1) := by decide +kernel
theorem dX5_tellPost_90 : decode cX5_tellPost 90 = .ok (.dup, 1) := by decide +kernel
theorem dX5_tellPost_91 : decode cX5_tellPost 91 = .ok (.getfield 43, 3) := by decide +kernel
theorem dX5_tellPost_94 : decode cX5_tellPost 94 = .ok (.iconst 1, 1) := by decide +kernel
theorem dX5_tellPost_95 : decode cX5_tellPost 95 = .ok (.iadd, 1) := by decide +kernel
theorem dX5_tellPost_96 : decode cX5_tellPost 96 = .ok (.putfield 43, 3) := by decide +kernel
theorem dX5_tellPost_99 : decode cX5_tellPost 99 = .ok (.iconst 1, 1) := by decide +kernel
theorem dX5_tellPost_100 : decode cX5_tellPost 100 = .ok (.ireturn, 1) := by decide +kernel
theorem dX5_tellWalker_0 : decode cX5_tellWalker 0 = .ok (.aload_n 0, 1) := by decide +kernel
theorem dX5_tellWalker_1 : decode cX5_tellWalker 1 = .ok (.iload_n 1, 1) := by decide +kernel
theorem dX5_tellWalker_2 : decode cX5_tellWalker 2 = .ok (.iload_n 2, 1) := by decide +kernel
theorem dX5_tellWalker_3 : decode cX5_tellWalker 3 = .ok (.invokevirtual 63, 3) := by decide +kernel
theorem dX5_tellWalker_6 : decode cX5_tellWalker 6 = .ok (.ifCond .eq 11, 3) := by decide +kernel
theorem dX5_tellWalker_9 : decode cX5_tellWalker 9 = .ok (.aload_n 0, 1) := by decide +kernel
theorem dX5_tellWalker_10 : decode cX5_tellWalker 10 = .ok (.getfield 47, 3) := by decide +kernel
theorem dX5_tellWalker_13 : decode cX5_tellWalker 13 = .ok (.iconst 5, 1) := by decide +kernel
theorem dX5_tellWalker_14 : decode cX5_tellWalker 14 = .ok (.if_icmp .lt 5, 3) := by decide +kernel
theorem dX5_tellWalker_17 : decode cX5_tellWalker 17 = .ok (.iconst 0, 1) := by decide +kernel
theorem dX5_tellWalker_18 : decode cX5_tellWalker 18 = .ok (.ireturn, 1) := by decide +kernel
theorem dX5_tellWalker_19 : decode cX5_tellWalker 19 = .ok (.aload_n 0, 1) := by decide +kernel
theorem dX5_tellWalker_20 : decode cX5_tellWalker 20 = .ok (.getfield 33, 3) := by decide +kernel
theorem dX5_tellWalker_23 : decode cX5_tellWalker 23 = .ok (.aload_n 0, 1) := by decide +kernel
theorem dX5_tellWalker_24 : decode cX5_tellWalker 24 = .ok (.getfield 47, 3) := by decide +kernel
theorem dX5_tellWalker_27 : decode cX5_tellWalker 27 = .ok (.iconst 0, 1) := by decide +kernel
theorem dX5_tellWalker_28 : decode cX5_tellWalker 28 = .ok (.iload_n 1, 1) := by decide +kernel
theorem dX5_tellWalker_29 : decode cX5_tellWalker 29 = .ok (.invokevirtual 75, 3) := by decide +kernel
theorem dX5_tellWalker_32 : decode cX5_tellWalker 32 = .ok (.aload_n 0, 1) := by decide +kernel
theorem dX5_tellWalker_33 : decode cX5_tellWalker 33 = .ok (.getfield 33, 3) := by decide +kernel
theorem dX5_tellWalker_36 : decode cX5_tellWalker 36 = .ok (.aload_n 0, 1) := by decide +kernel
theorem dX5_tellWalker_37 : decode cX5_tellWalker 37 = .ok (.getfield 47, 3) := by decide +kernel
theorem dX5_tellWalker_40 : decode cX5_tellWalker 40 = .ok (.iconst 1, 1) := by decide +kernel
theorem dX5_tellWalker_41 : decode cX5_tellWalker 41 = .ok (.iload_n 2, 1) := by decide +kernel
theorem dX5_tellWalker_42 : decode cX5_tellWalker 42 = .ok (.invokevirtual 75, 3) := by decide +kernel
theorem dX5_tellWalker_45 : decode cX5_tellWalker 45 = .ok (.aload_n 0, 1) := by decide +kernel
theorem dX5_tellWalker_46 : decode cX5_tellWalker 46 = .ok (.dup, 1) := by decide +kernel
theorem dX5_tellWalker_47 : decode cX5_tellWalker 47 = .ok (.getfield 47, 3) := by decide +kernel
theorem dX5_tellWalker_50 : decode cX5_tellWalker 50 = .ok (.iconst 1, 1) := by decide +kernel
theorem dX5_tellWalker_51 : decode cX5_tellWalker 51 = .ok (.iadd, 1) := by decide +kernel
theorem dX5_tellWalker_52 : decode cX5_tellWalker 52 = .ok (.putfield 47, 3) := by decide +kernel
theorem dX5_tellWalker_55 : decode cX5_tellWalker 55 = .ok (.iconst 1, 1) := by decide +kernel
theorem dX5_tellWalker_56 : decode cX5_tellWalker 56 = .ok (.ireturn, 1) := by decide +kernel
theorem dX5_paintAll_0 : decode cX5_paintAll 0 = .ok (.aload_n 0, 1) := by decide +kernel
theorem dX5_paintAll_1 : decode cX5_paintAll 1 = .ok (.getfield 12, 3) := by decide +kernel
theorem dX5_paintAll_4 : decode cX5_paintAll 4 = .ok (.invokevirtual 78, 3) := by decide +kernel
theorem dX5_paintAll_7 : decode cX5_paintAll 7 = .ok (.iconst 0, 1) := by decide +kernel
theorem dX5_paintAll_8 : decode cX5_paintAll 8 = .ok (.istore_n 1, 1) := by decide +kernel
theorem dX5_paintAll_9 : decode cX5_paintAll 9 = .ok (.iload_n 1, 1) := by decide +kernel
theorem dX5_paintAll_10 : decode cX5_paintAll 10 = .ok (.aload_n 0, 1) := by decide +kernel
theorem dX5_paintAll_11 : decode cX5_paintAll 11 = .ok (.getfield 43, 3) := by decide +kernel
theorem dX5_paintAll_14 : decode cX5_paintAll 14 = .ok (.if_icmp .ge 15, 3) := by decide +kernel
theorem dX5_paintAll_17 : decode cX5_paintAll 17 = .ok (.aload_n 0, 1) := by decide +kernel
theorem dX5_paintAll_18 : decode cX5_paintAll 18 = .ok (.iload_n 1, 1) := by decide +kernel
theorem dX5_paintAll_19 : decode cX5_paintAll 19 = .ok (.invokevirtual 81, 3) := by decide +kernel
theorem dX5_paintAll_22 : decode cX5_paintAll 22 = .ok (.pop, 1) := by decide +kernel
theorem dX5_paintAll_23 : decode cX5_paintAll 23 = .ok (.iinc 1 1, 3) := by decide +kernel
theorem dX5_paintAll_26 : decode cX5_paintAll 26 = .ok (.goto (-17), 3) := by decide +kernel
theorem dX5_paintAll_29 : decode cX5_paintAll 29 = .ok (.return_, 1) := by decide +kernel
theorem dX5_roads_0 : decode cX5_roads 0 = .ok (.aload_n 0, 1) := by decide +kernel
theorem dX5_roads_1 : decode cX5_roads 1 = .ok (.getfield 12, 3) := by decide +kernel
theorem dX5_roads_4 : decode cX5_roads 4 = .ok (.areturn, 1) := by decide +kernel
theorem dX5_towns_0 : decode cX5_towns 0 = .ok (.aload_n 0, 1) := by decide +kernel
theorem dX5_towns_1 : decode cX5_towns 1 = .ok (.getfield 12, 3) := by decide +kernel
theorem dX5_towns_4 : decode cX5_towns 4 = .ok (.invokevirtual 85, 3) := by decide +kernel
theorem dX5_towns_7 : decode cX5_towns 7 = .ok (.ireturn, 1) := by decide +kernel
theorem dX5_posts_0 : decode cX5_posts 0 = .ok (.aload_n 0, 1) := by decide +kernel
theorem dX5_posts_1 : decode cX5_posts 1 = .ok (.getfield 43, 3) := by decide +kernel
theorem dX5_posts_4 : decode cX5_posts 4 = .ok (.ireturn, 1) := by decide +kernel
theorem dX5_walkers_0 : decode cX5_walkers 0 = .ok (.aload_n 0, 1) := by decide +kernel
theorem dX5_walkers_1 : decode cX5_walkers 1 = .ok (.getfield 47, 3) := by decide +kernel
theorem dX5_walkers_4 : decode cX5_walkers 4 = .ok (.ireturn, 1) := by decide +kernel
theorem dX5_hour_0 : decode cX5_hour 0 = .ok (.aload_n 0, 1) := by decide +kernel
theorem dX5_hour_1 : decode cX5_hour 1 = .ok (.getfield 50, 3) := by decide +kernel
theorem dX5_hour_4 : decode cX5_hour 4 = .ok (.ireturn, 1) := by decide +kernel
theorem dX5_years_0 : decode cX5_years 0 = .ok (.aload_n 0, 1) := by decide +kernel
theorem dX5_years_1 : decode cX5_years 1 = .ok (.getfield 53, 3) := by decide +kernel
theorem dX5_years_4 : decode cX5_years 4 = .ok (.ireturn, 1) := by decide +kernel
theorem dX5_isTown_0 : decode cX5_isTown 0 = .ok (.iload_n 1, 1) := by decide +kernel
theorem dX5_isTown_1 : decode cX5_isTown 1 = .ok (.ifCond .lt 18, 3) := by decide +kernel
theorem dX5_isTown_4 : decode cX5_isTown 4 = .ok (.iload_n 1, 1) := by decide +kernel
theorem dX5_isTown_5 : decode cX5_isTown 5 = .ok (.aload_n 0, 1) := by decide +kernel
theorem dX5_isTown_6 : decode cX5_isTown 6 = .ok (.getfield 12, 3) := by decide +kernel
theorem dX5_isTown_9 : decode cX5_isTown 9 = .ok (.invokevirtual 85, 3) := by decide +kernel
theorem dX5_isTown_12 : decode cX5_isTown 12 = .ok (.if_icmp .ge 7, 3) := by decide +kernel
theorem dX5_isTown_15 : decode cX5_isTown 15 = .ok (.iconst 1, 1) := by decide +kernel
theorem dX5_isTown_16 : decode cX5_isTown 16 = .ok (.goto 4, 3) := by decide +kernel
theorem dX5_isTown_19 : decode cX5_isTown 19 = .ok (.iconst 0, 1) := by decide +kernel
theorem dX5_isTown_20 : decode cX5_isTown 20 = .ok (.ireturn, 1) := by decide +kernel
theorem dX5_areTwoTowns_0 : decode cX5_areTwoTowns 0 = .ok (.aload_n 0, 1) := by decide +kernel
theorem dX5_areTwoTowns_1 : decode cX5_areTwoTowns 1 = .ok (.iload_n 1, 1) := by decide +kernel
theorem dX5_areTwoTowns_2 : decode cX5_areTwoTowns 2 = .ok (.invokevirtual 71, 3) := by decide +kernel
theorem dX5_areTwoTowns_5 : decode cX5_areTwoTowns 5 = .ok (.ifCond .eq 20, 3) := by decide +kernel
theorem dX5_areTwoTowns_8 : decode cX5_areTwoTowns 8 = .ok (.aload_n 0, 1) := by decide +kernel
theorem dX5_areTwoTowns_9 : decode cX5_areTwoTowns 9 = .ok (.iload_n 2, 1) := by decide +kernel
theorem dX5_areTwoTowns_10 : decode cX5_areTwoTowns 10 = .ok (.invokevirtual 71, 3) := by decide +kernel
theorem dX5_areTwoTowns_13 : decode cX5_areTwoTowns 13 = .ok (.ifCond .eq 12, 3) := by decide +kernel
theorem dX5_areTwoTowns_16 : decode cX5_areTwoTowns 16 = .ok (.iload_n 1, 1) := by decide +kernel
theorem dX5_areTwoTowns_17 : decode cX5_areTwoTowns 17 = .ok (.iload_n 2, 1) := by decide +kernel
theorem dX5_areTwoTowns_18 : decode cX5_areTwoTowns 18 = .ok (.if_icmp .eq 7, 3) := by decide +kernel
theorem dX5_areTwoTowns_21 : decode cX5_areTwoTowns 21 = .ok (.iconst 1, 1) := by decide +kernel
theorem dX5_areTwoTowns_22 : decode cX5_areTwoTowns 22 = .ok (.goto 4, 3) := by decide +kernel
theorem dX5_areTwoTowns_25 : decode cX5_areTwoTowns 25 = .ok (.iconst 0, 1) := by decide +kernel
theorem dX5_areTwoTowns_26 : decode cX5_areTwoTowns 26 = .ok (.ireturn, 1) := by decide +kernel
theorem dX5_isPost_0 : decode cX5_isPost 0 = .ok (.iload_n 1, 1) := by decide +kernel
theorem dX5_isPost_1 : decode cX5_isPost 1 = .ok (.ifCond .lt 15, 3) := by decide +kernel
theorem dX5_isPost_4 : decode cX5_isPost 4 = .ok (.iload_n 1, 1) := by decide +kernel
theorem dX5_isPost_5 : decode cX5_isPost 5 = .ok (.aload_n 0, 1) := by decide +kernel
theorem dX5_isPost_6 : decode cX5_isPost 6 = .ok (.getfield 43, 3) := by decide +kernel
theorem dX5_isPost_9 : decode cX5_isPost 9 = .ok (.if_icmp .ge 7, 3) := by decide +kernel
theorem dX5_isPost_12 : decode cX5_isPost 12 = .ok (.iconst 1, 1) := by decide +kernel
theorem dX5_isPost_13 : decode cX5_isPost 13 = .ok (.goto 4, 3) := by decide +kernel
theorem dX5_isPost_16 : decode cX5_isPost 16 = .ok (.iconst 0, 1) := by decide +kernel
theorem dX5_isPost_17 : decode cX5_isPost 17 = .ok (.ireturn, 1) := by decide +kernel
theorem dX5_isWalker_0 : decode cX5_isWalker 0 = .ok (.iload_n 1, 1) := by decide +kernel
theorem dX5_isWalker_1 : decode cX5_isWalker 1 = .ok (.ifCond .lt 15, 3) := by decide +kernel
theorem dX5_isWalker_4 : decode cX5_isWalker 4 = .ok (.iload_n 1, 1) := by decide +kernel
theorem dX5_isWalker_5 : decode cX5_isWalker 5 = .ok (.aload_n 0, 1) := by decide +kernel
theorem dX5_isWalker_6 : decode cX5_isWalker 6 = .ok (.getfield 47, 3) := by decide +kernel
theorem dX5_isWalker_9 : decode cX5_isWalker 9 = .ok (.if_icmp .ge 7, 3) := by decide +kernel
theorem dX5_isWalker_12 : decode cX5_isWalker 12 = .ok (.iconst 1, 1) := by decide +kernel
theorem dX5_isWalker_13 : decode cX5_isWalker 13 = .ok (.goto 4, 3) := by decide +kernel
theorem dX5_isWalker_16 : decode cX5_isWalker 16 = .ok (.iconst 0, 1) := by decide +kernel
theorem dX5_isWalker_17 : decode cX5_isWalker 17 = .ok (.ireturn, 1) := by decide +kernel
theorem dX5_kindOf_0 : decode cX5_kindOf 0 = .ok (.aload_n 0, 1) := by decide +kernel
theorem dX5_kindOf_1 : decode cX5_kindOf 1 = .ok (.getfield 23, 3) := by decide +kernel
theorem dX5_kindOf_4 : decode cX5_kindOf 4 = .ok (.iload_n 1, 1) := by decide +kernel
theorem dX5_kindOf_5 : decode cX5_kindOf 5 = .ok (.iconst 0, 1) := by decide +kernel
theorem dX5_kindOf_6 : decode cX5_kindOf 6 = .ok (.invokevirtual 89, 3) := by decide +kernel
theorem dX5_kindOf_9 : decode cX5_kindOf 9 = .ok (.ireturn, 1) := by decide +kernel
theorem dX5_townOf_0 : decode cX5_townOf 0 = .ok (.aload_n 0, 1) := by decide +kernel
theorem dX5_townOf_1 : decode cX5_townOf 1 = .ok (.getfield 23, 3) := by decide +kernel
theorem dX5_townOf_4 : decode cX5_townOf 4 = .ok (.iload_n 1, 1) := by decide +kernel
theorem dX5_townOf_5 : decode cX5_townOf 5 = .ok (.iconst 1, 1) := by decide +kernel
theorem dX5_townOf_6 : decode cX5_townOf 6 = .ok (.invokevirtual 89, 3) := by decide +kernel
theorem dX5_townOf_9 : decode cX5_townOf 9 = .ok (.ireturn, 1) := by decide +kernel
theorem dX5_ageOf_0 : decode cX5_ageOf 0 = .ok (.aload_n 0, 1) := by decide +kernel
theorem dX5_ageOf_1 : decode cX5_ageOf 1 = .ok (.getfield 23, 3) := by decide +kernel
theorem dX5_ageOf_4 : decode cX5_ageOf 4 = .ok (.iload_n 1, 1) := by decide +kernel
theorem dX5_ageOf_5 : decode cX5_ageOf 5 = .ok (.iconst 2, 1) := by decide +kernel
theorem dX5_ageOf_6 : decode cX5_ageOf 6 = .ok (.invokevirtual 89, 3) := by decide +kernel
theorem dX5_ageOf_9 : decode cX5_ageOf 9 = .ok (.ireturn, 1) := by decide +kernel
theorem dX5_armOf_0 : decode cX5_armOf 0 = .ok (.aload_n 0, 1) := by decide +kernel
theorem dX5_armOf_1 : decode cX5_armOf 1 = .ok (.getfield 27, 3) := by decide +kernel
theorem dX5_armOf_4 : decode cX5_armOf 4 = .ok (.iload_n 1, 1) := by decide +kernel
theorem dX5_armOf_5 : decode cX5_armOf 5 = .ok (.iload_n 2, 1) := by decide +kernel
theorem dX5_armOf_6 : decode cX5_armOf 6 = .ok (.invokevirtual 89, 3) := by decide +kernel
theorem dX5_armOf_9 : decode cX5_armOf 9 = .ok (.ireturn, 1) := by decide +kernel
theorem dX5_milesOf_0 : decode cX5_milesOf 0 = .ok (.aload_n 0, 1) := by decide +kernel
theorem dX5_milesOf_1 : decode cX5_milesOf 1 = .ok (.getfield 30, 3) := by decide +kernel
theorem dX5_milesOf_4 : decode cX5_milesOf 4 = .ok (.iload_n 1, 1) := by decide +kernel
theorem dX5_milesOf_5 : decode cX5_milesOf 5 = .ok (.iload_n 2, 1) := by decide +kernel
theorem dX5_milesOf_6 : decode cX5_milesOf 6 = .ok (.invokevirtual 89, 3) := by decide +kernel
theorem dX5_milesOf_9 : decode cX5_milesOf 9 = .ok (.ireturn, 1) := by decide +kernel
theorem dX5_placeOf_0 : decode cX5_placeOf 0 = .ok (.aload_n 0, 1) := by decide +kernel
theorem dX5_placeOf_1 : decode cX5_placeOf 1 = .ok (.getfield 33, 3) := by decide +kernel
theorem dX5_placeOf_4 : decode cX5_placeOf 4 = .ok (.iload_n 1, 1) := by decide +kernel
theorem dX5_placeOf_5 : decode cX5_placeOf 5 = .ok (.iconst 0, 1) := by decide +kernel
theorem dX5_placeOf_6 : decode cX5_placeOf 6 = .ok (.invokevirtual 89, 3) := by decide +kernel
theorem dX5_placeOf_9 : decode cX5_placeOf 9 = .ok (.ireturn, 1) := by decide +kernel
theorem dX5_goalOf_0 : decode cX5_goalOf 0 = .ok (.aload_n 0, 1) := by decide +kernel
theorem dX5_goalOf_1 : decode cX5_goalOf 1 = .ok (.getfield 33, 3) := by decide +kernel
theorem dX5_goalOf_4 : decode cX5_goalOf 4 = .ok (.iload_n 1, 1) := by decide +kernel
theorem dX5_goalOf_5 : decode cX5_goalOf 5 = .ok (.iconst 1, 1) := by decide +kernel
theorem dX5_goalOf_6 : decode cX5_goalOf 6 = .ok (.invokevirtual 89, 3) := by decide +kernel
theorem dX5_goalOf_9 : decode cX5_goalOf 9 = .ok (.ireturn, 1) := by decide +kernel
theorem dX5_hasCome_0 : decode cX5_hasCome 0 = .ok (.aload_n 0, 1) := by decide +kernel
theorem dX5_hasCome_1 : decode cX5_hasCome 1 = .ok (.getfield 33, 3) := by decide +kernel
theorem dX5_hasCome_4 : decode cX5_hasCome 4 = .ok (.iload_n 1, 1) := by decide +kernel
theorem dX5_hasCome_5 : decode cX5_hasCome 5 = .ok (.iconst 0, 1) := by decide +kernel
theorem dX5_hasCome_6 : decode cX5_hasCome 6 = .ok (.invokevirtual 89, 3) := by decide +kernel
theorem dX5_hasCome_9 : decode cX5_hasCome 9 = .ok (.aload_n 0, 1) := by decide +kernel
theorem dX5_hasCome_10 : decode cX5_hasCome 10 = .ok (.getfield 33, 3) := by decide +kernel
theorem dX5_hasCome_13 : decode cX5_hasCome 13 = .ok (.iload_n 1, 1) := by decide +kernel
theorem dX5_hasCome_14 : decode cX5_hasCome 14 = .ok (.iconst 1, 1) := by decide +kernel
theorem dX5_hasCome_15 : decode cX5_hasCome 15 = .ok (.invokevirtual 89, 3) := by decide +kernel
theorem dX5_hasCome_18 : decode cX5_hasCome 18 = .ok (.if_icmp .ne 7, 3) := by decide +kernel
theorem dX5_hasCome_21 : decode cX5_hasCome 21 = .ok (.iconst 1, 1) := by decide +kernel
theorem dX5_hasCome_22 : decode cX5_hasCome 22 = .ok (.goto 4, 3) := by decide +kernel
theorem dX5_hasCome_25 : decode cX5_hasCome 25 = .ok (.iconst 0, 1) := by decide +kernel
theorem dX5_hasCome_26 : decode cX5_hasCome 26 = .ok (.ireturn, 1) := by decide +kernel
theorem dX5_isRetired_0 : decode cX5_isRetired 0 = .ok (.aload_n 0, 1) := by decide +kernel
theorem dX5_isRetired_1 : decode cX5_isRetired 1 = .ok (.getfield 23, 3) := by decide +kernel
theorem dX5_isRetired_4 : decode cX5_isRetired 4 = .ok (.iload_n 1, 1) := by decide +kernel
theorem dX5_isRetired_5 : decode cX5_isRetired 5 = .ok (.iconst 1, 1) := by decide +kernel
theorem dX5_isRetired_6 : decode cX5_isRetired 6 = .ok (.invokevirtual 89, 3) := by decide +kernel
theorem dX5_isRetired_9 : decode cX5_isRetired 9 = .ok (.bipush (-4), 2) := by decide +kernel
theorem dX5_isRetired_11 : decode cX5_isRetired 11 = .ok (.if_icmp .ne 7, 3) := by decide +kernel
theorem dX5_isRetired_14 : decode cX5_isRetired 14 = .ok (.iconst 1, 1) := by decide +kernel
theorem dX5_isRetired_15 : decode cX5_isRetired 15 = .ok (.goto 4, 3) := by decide +kernel
theorem dX5_isRetired_18 : decode cX5_isRetired 18 = .ok (.iconst 0, 1) := by decide +kernel
theorem dX5_isRetired_19 : decode cX5_isRetired 19 = .ok (.ireturn, 1) := by decide +kernel
theorem dX5_noneRetired_0 : decode cX5_noneRetired 0 = .ok (.iconst 0, 1) := by decide +kernel
theorem dX5_noneRetired_1 : decode cX5_noneRetired 1 = .ok (.istore_n 2, 1) := by decide +kernel
theorem dX5_noneRetired_2 : decode cX5_noneRetired 2 = .ok (.iload_n 2, 1) := by decide +kernel
theorem dX5_noneRetired_3 : decode cX5_noneRetired 3 = .ok (.aload_n 0, 1) := by decide +kernel
theorem dX5_noneRetired_4 : decode cX5_noneRetired 4 = .ok (.getfield 43, 3) := by decide +kernel
theorem dX5_noneRetired_7 : decode cX5_noneRetired 7 = .ok (.if_icmp .ge 27, 3) := by decide +kernel
theorem dX5_noneRetired_10 : decode cX5_noneRetired 10 = .ok (.iload_n 1, 1) := by decide +kernel
theorem dX5_noneRetired_11 : decode cX5_noneRetired 11 = .ok (.iload_n 2, 1) := by decide +kernel
theorem dX5_noneRetired_12 : decode cX5_noneRetired 12 = .ok (.invokestatic 93, 3) := by decide +kernel
theorem dX5_noneRetired_15 : decode cX5_noneRetired 15 = .ok (.ifCond .eq 13, 3) := by decide +kernel
theorem dX5_noneRetired_18 : decode cX5_noneRetired 18 = .ok (.aload_n 0, 1) := by decide +kernel
theorem dX5_noneRetired_19 : decode cX5_noneRetired 19 = .ok (.iload_n 2, 1) := by decide +kernel
theorem dX5_noneRetired_20 : decode cX5_noneRetired 20 = .ok (.invokevirtual 96, 3) := by decide +kernel
theorem dX5_noneRetired_23 : decode cX5_noneRetired 23 = .ok (.ifCond .eq 5, 3) := by decide +kernel
theorem dX5_noneRetired_26 : decode cX5_noneRetired 26 = .ok (.iconst 0, 1) := by decide +kernel
theorem dX5_noneRetired_27 : decode cX5_noneRetired 27 = .ok (.ireturn, 1) := by decide +kernel
theorem dX5_noneRetired_28 : decode cX5_noneRetired 28 = .ok (.iinc 2 1, 3) := by decide +kernel
theorem dX5_noneRetired_31 : decode cX5_noneRetired 31 = .ok (.goto (-29), 3) := by decide +kernel
theorem dX5_noneRetired_34 : decode cX5_noneRetired 34 = .ok (.iconst 1, 1) := by decide +kernel
theorem dX5_noneRetired_35 : decode cX5_noneRetired 35 = .ok (.ireturn, 1) := by decide +kernel
theorem dX5_comeCount_0 : decode cX5_comeCount 0 = .ok (.iconst 0, 1) := by decide +kernel
theorem dX5_comeCount_1 : decode cX5_comeCount 1 = .ok (.istore_n 1, 1) := by decide +kernel
theorem dX5_comeCount_2 : decode cX5_comeCount 2 = .ok (.iconst 0, 1) := by decide +kernel
theorem dX5_comeCount_3 : decode cX5_comeCount 3 = .ok (.istore_n 2, 1) := by decide +kernel
theorem dX5_comeCount_4 : decode cX5_comeCount 4 = .ok (.iload_n 2, 1) := by decide +kernel
theorem dX5_comeCount_5 : decode cX5_comeCount 5 = .ok (.aload_n 0, 1) := by decide +kernel
theorem dX5_comeCount_6 : decode cX5_comeCount 6 = .ok (.getfield 47, 3) := by decide +kernel
theorem dX5_comeCount_9 : decode cX5_comeCount 9 = .ok (.if_icmp .ge 20, 3) := by decide +kernel
theorem dX5_comeCount_12 : decode cX5_comeCount 12 = .ok (.aload_n 0, 1) := by decide +kernel
theorem dX5_comeCount_13 : decode cX5_comeCount 13 = .ok (.iload_n 2, 1) := by decide +kernel
theorem dX5_comeCount_14 : decode cX5_comeCount 14 = .ok (.invokevirtual 99, 3) := by decide +kernel
theorem dX5_comeCount_17 : decode cX5_comeCount 17 = .ok (.ifCond .eq 6, 3) := by decide +kernel
theorem dX5_comeCount_20 : decode cX5_comeCount 20 = .ok (.iinc 1 1, 3) := by decide +kernel
theorem dX5_comeCount_23 : decode cX5_comeCount 23 = .ok (.iinc 2 1, 3) := by decide +kernel
theorem dX5_comeCount_26 : decode cX5_comeCount 26 = .ok (.goto (-22), 3) := by decide +kernel
theorem dX5_comeCount_29 : decode cX5_comeCount 29 = .ok (.iload_n 1, 1) := by decide +kernel
theorem dX5_comeCount_30 : decode cX5_comeCount 30 = .ok (.ireturn, 1) := by decide +kernel
theorem dX5_retiredCount_0 : decode cX5_retiredCount 0 = .ok (.iconst 0, 1) := by decide +kernel
theorem dX5_retiredCount_1 : decode cX5_retiredCount 1 = .ok (.istore_n 1, 1) := by decide +kernel
theorem dX5_retiredCount_2 : decode cX5_retiredCount 2 = .ok (.iconst 0, 1) := by decide +kernel
theorem dX5_retiredCount_3 : decode cX5_retiredCount 3 = .ok (.istore_n 2, 1) := by decide +kernel
theorem dX5_retiredCount_4 : decode cX5_retiredCount 4 = .ok (.iload_n 2, 1) := by decide +kernel
theorem dX5_retiredCount_5 : decode cX5_retiredCount 5 = .ok (.aload_n 0, 1) := by decide +kernel
theorem dX5_retiredCount_6 : decode cX5_retiredCount 6 = .ok (.getfield 43, 3) := by decide +kernel
theorem dX5_retiredCount_9 : decode cX5_retiredCount 9 = .ok (.if_icmp .ge 20, 3) := by decide +kernel
theorem dX5_retiredCount_12 : decode cX5_retiredCount 12 = .ok (.aload_n 0, 1) := by decide +kernel
theorem dX5_retiredCount_13 : decode cX5_retiredCount 13 = .ok (.iload_n 2, 1) := by decide +kernel
theorem dX5_retiredCount_14 : decode cX5_retiredCount 14 = .ok (.invokevirtual 96, 3) := by decide +kernel
theorem dX5_retiredCount_17 : decode cX5_retiredCount 17 = .ok (.ifCond .eq 6, 3) := by decide +kernel
theorem dX5_retiredCount_20 : decode cX5_retiredCount 20 = .ok (.iinc 1 1, 3) := by decide +kernel
theorem dX5_retiredCount_23 : decode cX5_retiredCount 23 = .ok (.iinc 2 1, 3) := by decide +kernel
theorem dX5_retiredCount_26 : decode cX5_retiredCount 26 = .ok (.goto (-22), 3) := by decide +kernel
theorem dX5_retiredCount_29 : decode cX5_retiredCount 29 = .ok (.iload_n 1, 1) := by decide +kernel
theorem dX5_retiredCount_30 : decode cX5_retiredCount 30 = .ok (.ireturn, 1) := by decide +kernel
theorem dX5_lowestPostIn_0 : decode cX5_lowestPostIn 0 = .ok (.iconst 0, 1) := by decide +kernel
theorem dX5_lowestPostIn_1 : decode cX5_lowestPostIn 1 = .ok (.istore_n 2, 1) := by decide +kernel
theorem dX5_lowestPostIn_2 : decode cX5_lowestPostIn 2 = .ok (.iload_n 2, 1) := by decide +kernel
theorem dX5_lowestPostIn_3 : decode cX5_lowestPostIn 3 = .ok (.aload_n 0, 1) := by decide +kernel
theorem dX5_lowestPostIn_4 : decode cX5_lowestPostIn 4 = .ok (.getfield 43, 3) := by decide +kernel
theorem dX5_lowestPostIn_7 : decode cX5_lowestPostIn 7 = .ok (.if_icmp .ge 24, 3) := by decide +kernel
theorem dX5_lowestPostIn_10 : decode cX5_lowestPostIn 10 = .ok (.aload_n 0, 1) := by decide +kernel
theorem dX5_lowestPostIn_11 : decode cX5_lowestPostIn 11 = .ok (.getfield 23, 3) := by decide +kernel
theorem dX5_lowestPostIn_14 : decode cX5_lowestPostIn 14 = .ok (.iload_n 2, 1) := by decide +kernel
theorem dX5_lowestPostIn_15 : decode cX5_lowestPostIn 15 = .ok (.iconst 1, 1) := by decide +kernel
theorem dX5_lowestPostIn_16 : decode cX5_lowestPostIn 16 = .ok (.invokevirtual 89, 3) := by decide +kernel
theorem dX5_lowestPostIn_19 : decode cX5_lowestPostIn 19 = .ok (.iload_n 1, 1) := by decide +kernel
theorem dX5_lowestPostIn_20 : decode cX5_lowestPostIn 20 = .ok (.if_icmp .ne 5, 3) := by decide +kernel
theorem dX5_lowestPostIn_23 : decode cX5_lowestPostIn 23 = .ok (.iload_n 2, 1) := by decide +kernel
theorem dX5_lowestPostIn_24 : decode cX5_lowestPostIn 24 = .ok (.ireturn, 1) := by decide +kernel
theorem dX5_lowestPostIn_25 : decode cX5_lowestPostIn 25 = .ok (.iinc 2 1, 3) := by decide +kernel
theorem dX5_lowestPostIn_28 : decode cX5_lowestPostIn 28 = .ok (.goto (-26), 3) := by decide +kernel
theorem dX5_lowestPostIn_31 : decode cX5_lowestPostIn 31 = .ok (.bipush (-4), 2) := by decide +kernel
theorem dX5_lowestPostIn_33 : decode cX5_lowestPostIn 33 = .ok (.ireturn, 1) := by decide +kernel
theorem dX5_pointing_0 : decode cX5_pointing 0 = .ok (.aload_n 0, 1) := by decide +kernel
theorem dX5_pointing_1 : decode cX5_pointing 1 = .ok (.getfield 23, 3) := by decide +kernel
theorem dX5_pointing_4 : decode cX5_pointing 4 = .ok (.iload_n 1, 1) := by decide +kernel
theorem dX5_pointing_5 : decode cX5_pointing 5 = .ok (.iconst 1, 1) := by decide +kernel
theorem dX5_pointing_6 : decode cX5_pointing 6 = .ok (.invokevirtual 89, 3) := by decide +kernel
theorem dX5_pointing_9 : decode cX5_pointing 9 = .ok (.istore_n 3, 1) := by decide +kernel
theorem dX5_pointing_10 : decode cX5_pointing 10 = .ok (.aload_n 0, 1) := by decide +kernel
theorem dX5_pointing_11 : decode cX5_pointing 11 = .ok (.getfield 27, 3) := by decide +kernel
theorem dX5_pointing_14 : decode cX5_pointing 14 = .ok (.iload_n 1, 1) := by decide +kernel
theorem dX5_pointing_15 : decode cX5_pointing 15 = .ok (.iload_n 2, 1) := by decide +kernel
theorem dX5_pointing_16 : decode cX5_pointing 16 = .ok (.invokevirtual 89, 3) := by decide +kernel
theorem dX5_pointing_19 : decode cX5_pointing 19 = .ok (.istore 4, 2) := by decide +kernel
theorem dX5_pointing_21 : decode cX5_pointing 21 = .ok (.aload_n 0, 1) := by decide +kernel
theorem dX5_pointing_22 : decode cX5_pointing 22 = .ok (.iload_n 1, 1) := by decide +kernel
theorem dX5_pointing_23 : decode cX5_pointing 23 = .ok (.invokevirtual 102, 3) := by decide +kernel
theorem dX5_pointing_26 : decode cX5_pointing 26 = .ok (.istore 5, 2) := by decide +kernel
theorem dX5_pointing_28 : decode cX5_pointing 28 = .ok (.iconst 0, 1) := by decide +kernel
theorem dX5_pointing_29 : decode cX5_pointing 29 = .ok (.istore 6, 2) := by decide +kernel
theorem dX5_pointing_31 : decode cX5_pointing 31 = .ok (.iload 6, 2) := by decide +kernel
theorem dX5_pointing_33 : decode cX5_pointing 33 = .ok (.iload 5, 2) := by decide +kernel
theorem dX5_pointing_35 : decode cX5_pointing 35 = .ok (.if_icmp .ge 28, 3) := by decide +kernel
theorem dX5_pointing_38 : decode cX5_pointing 38 = .ok (.iload 4, 2) := by decide +kernel
theorem dX5_pointing_40 : decode cX5_pointing 40 = .ok (.bipush (-4), 2) := by decide +kernel
theorem dX5_pointing_42 : decode cX5_pointing 42 = .ok (.if_icmp .eq 21, 3) := by decide +kernel
theorem dX5_pointing_45 : decode cX5_pointing 45 = .ok (.aload_n 0, 1) := by decide +kernel
theorem dX5_pointing_46 : decode cX5_pointing 46 = .ok (.getfield 12, 3) := by decide +kernel
theorem dX5_pointing_49 : decode cX5_pointing 49 = .ok (.iload_n 3, 1) := by decide +kernel
theorem dX5_pointing_50 : decode cX5_pointing 50 = .ok (.iload 4, 2) := by decide +kernel
theorem dX5_pointing_52 : decode cX5_pointing 52 = .ok (.invokevirtual 105, 3) := by decide +kernel
theorem dX5_pointing_55 : decode cX5_pointing 55 = .ok (.istore 4, 2) := by decide +kernel
theorem dX5_pointing_57 : decode cX5_pointing 57 = .ok (.iinc 6 1, 3) := by decide +kernel
theorem dX5_pointing_60 : decode cX5_pointing 60 = .ok (.goto (-29), 3) := by decide +kernel
theorem dX5_pointing_63 : decode cX5_pointing 63 = .ok (.iload 4, 2) := by decide +kernel
theorem dX5_pointing_65 : decode cX5_pointing 65 = .ok (.ireturn, 1) := by decide +kernel
theorem dX5_turnsOf_0 : decode cX5_turnsOf 0 = .ok (.aload_n 0, 1) := by decide +kernel
theorem dX5_turnsOf_1 : decode cX5_turnsOf 1 = .ok (.getfield 56, 3) := by decide +kernel
theorem dX5_turnsOf_4 : decode cX5_turnsOf 4 = .ok (.iload_n 1, 1) := by decide +kernel
theorem dX5_turnsOf_5 : decode cX5_turnsOf 5 = .ok (.invokestatic 93, 3) := by decide +kernel
theorem dX5_turnsOf_8 : decode cX5_turnsOf 8 = .ok (.ifCond .eq 7, 3) := by decide +kernel
theorem dX5_turnsOf_11 : decode cX5_turnsOf 11 = .ok (.iconst 1, 1) := by decide +kernel
theorem dX5_turnsOf_12 : decode cX5_turnsOf 12 = .ok (.goto 4, 3) := by decide +kernel
theorem dX5_turnsOf_15 : decode cX5_turnsOf 15 = .ok (.iconst 0, 1) := by decide +kernel
theorem dX5_turnsOf_16 : decode cX5_turnsOf 16 = .ok (.istore_n 2, 1) := by decide +kernel
theorem dX5_turnsOf_17 : decode cX5_turnsOf 17 = .ok (.aload_n 0, 1) := by decide +kernel
theorem dX5_turnsOf_18 : decode cX5_turnsOf 18 = .ok (.getfield 23, 3) := by decide +kernel
theorem dX5_turnsOf_21 : decode cX5_turnsOf 21 = .ok (.iload_n 1, 1) := by decide +kernel
theorem dX5_turnsOf_22 : decode cX5_turnsOf 22 = .ok (.iconst 0, 1) := by decide +kernel
theorem dX5_turnsOf_23 : decode cX5_turnsOf 23 = .ok (.invokevirtual 89, 3) := by decide +kernel
theorem dX5_turnsOf_26 : decode cX5_turnsOf 26 = .ok (.tableswitch 70 1 3 #[26, 48, 52], 26) := by decide +kernel
theorem dX5_turnsOf_52 : decode cX5_turnsOf 52 = .ok (.iload_n 2, 1) := by decide +kernel
theorem dX5_turnsOf_53 : decode cX5_turnsOf 53 = .ok (.aload_n 0, 1) := by decide +kernel
theorem dX5_turnsOf_54 : decode cX5_turnsOf 54 = .ok (.getfield 23, 3) := by decide +kernel
theorem dX5_turnsOf_57 : decode cX5_turnsOf 57 = .ok (.iload_n 1, 1) := by decide +kernel
theorem dX5_turnsOf_58 : decode cX5_turnsOf 58 = .ok (.iconst 2, 1) := by decide +kernel
theorem dX5_turnsOf_59 : decode cX5_turnsOf 59 = .ok (.invokevirtual 89, 3) := by decide +kernel
theorem dX5_turnsOf_62 : decode cX5_turnsOf 62 = .ok (.bipush 40, 2) := by decide +kernel
theorem dX5_turnsOf_64 : decode cX5_turnsOf 64 = .ok (.if_icmp .lt 7, 3) := by decide +kernel
theorem dX5_turnsOf_67 : decode cX5_turnsOf 67 = .ok (.iconst 1, 1) := by decide +kernel
theorem dX5_turnsOf_68 : decode cX5_turnsOf 68 = .ok (.goto 4, 3) := by decide +kernel
theorem dX5_turnsOf_71 : decode cX5_turnsOf 71 = .ok (.iconst 0, 1) := by decide +kernel
theorem dX5_turnsOf_72 : decode cX5_turnsOf 72 = .ok (.iadd, 1) := by decide +kernel
theorem dX5_turnsOf_73 : decode cX5_turnsOf 73 = .ok (.ireturn, 1) := by decide +kernel
theorem dX5_turnsOf_74 : decode cX5_turnsOf 74 = .ok (.iload_n 2, 1) := by decide +kernel
theorem dX5_turnsOf_75 : decode cX5_turnsOf 75 = .ok (.iconst 1, 1) := by decide +kernel
theorem dX5_turnsOf_76 : decode cX5_turnsOf 76 = .ok (.iadd, 1) := by decide +kernel
theorem dX5_turnsOf_77 : decode cX5_turnsOf 77 = .ok (.ireturn, 1) := by decide +kernel
theorem dX5_turnsOf_78 : decode cX5_turnsOf 78 = .ok (.iload_n 2, 1) := by decide +kernel
theorem dX5_turnsOf_79 : decode cX5_turnsOf 79 = .ok (.aload_n 0, 1) := by decide +kernel
theorem dX5_turnsOf_80 : decode cX5_turnsOf 80 = .ok (.getfield 50, 3) := by decide +kernel
theorem dX5_turnsOf_83 : decode cX5_turnsOf 83 = .ok (.iconst 2, 1) := by decide +kernel
theorem dX5_turnsOf_84 : decode cX5_turnsOf 84 = .ok (.irem, 1) := by decide +kernel
theorem dX5_turnsOf_85 : decode cX5_turnsOf 85 = .ok (.iconst 1, 1) := by decide +kernel
theorem dX5_turnsOf_86 : decode cX5_turnsOf 86 = .ok (.if_icmp .ne 7, 3) := by decide +kernel
theorem dX5_turnsOf_89 : decode cX5_turnsOf 89 = .ok (.iconst 2, 1) := by decide +kernel
theorem dX5_turnsOf_90 : decode cX5_turnsOf 90 = .ok (.goto 4, 3) := by decide +kernel
theorem dX5_turnsOf_93 : decode cX5_turnsOf 93 = .ok (.iconst 0, 1) := by decide +kernel
theorem dX5_turnsOf_94 : decode cX5_turnsOf 94 = .ok (.iadd, 1) := by decide +kernel
theorem dX5_turnsOf_95 : decode cX5_turnsOf 95 = .ok (.ireturn, 1) := by decide +kernel
theorem dX5_turnsOf_96 : decode cX5_turnsOf 96 = .ok (.iload_n 2, 1) := by decide +kernel
theorem dX5_turnsOf_97 : decode cX5_turnsOf 97 = .ok (.ireturn, 1) := by decide +kernel
theorem dX5_passHours_0 : decode cX5_passHours 0 = .ok (.iconst 0, 1) := by decide +kernel
theorem dX5_passHours_1 : decode cX5_passHours 1 = .ok (.istore_n 2, 1) := by decide +kernel
theorem dX5_passHours_2 : decode cX5_passHours 2 = .ok (.iload_n 2, 1) := by decide +kernel
theorem dX5_passHours_3 : decode cX5_passHours 3 = .ok (.iload_n 1, 1) := by decide +kernel
theorem dX5_passHours_4 : decode cX5_passHours 4 = .ok (.if_icmp .ge 81, 3) := by decide +kernel
theorem dX5_passHours_7 : decode cX5_passHours 7 = .ok (.iconst 0, 1) := by decide +kernel
theorem dX5_passHours_8 : decode cX5_passHours 8 = .ok (.istore_n 3, 1) := by decide +kernel
theorem dX5_passHours_9 : decode cX5_passHours 9 = .ok (.iload_n 3, 1) := by decide +kernel
theorem dX5_passHours_10 : decode cX5_passHours 10 = .ok (.aload_n 0, 1) := by decide +kernel
theorem dX5_passHours_11 : decode cX5_passHours 11 = .ok (.getfield 47, 3) := by decide +kernel
theorem dX5_passHours_14 : decode cX5_passHours 14 = .ok (.if_icmp .ge 55, 3) := by decide +kernel
theorem dX5_passHours_17 : decode cX5_passHours 17 = .ok (.aload_n 0, 1) := by decide +kernel
theorem dX5_passHours_18 : decode cX5_passHours 18 = .ok (.getfield 33, 3) := by decide +kernel
theorem dX5_passHours_21 : decode cX5_passHours 21 = .ok (.iload_n 3, 1) := by decide +kernel
theorem dX5_passHours_22 : decode cX5_passHours 22 = .ok (.iconst 0, 1) := by decide +kernel
theorem dX5_passHours_23 : decode cX5_passHours 23 = .ok (.invokevirtual 89, 3) := by decide +kernel
theorem dX5_passHours_26 : decode cX5_passHours 26 = .ok (.istore 4, 2) := by decide +kernel
theorem dX5_passHours_28 : decode cX5_passHours 28 = .ok (.aload_n 0, 1) := by decide +kernel
theorem dX5_passHours_29 : decode cX5_passHours 29 = .ok (.getfield 33, 3) := by decide +kernel
theorem dX5_passHours_32 : decode cX5_passHours 32 = .ok (.iload_n 3, 1) := by decide +kernel
theorem dX5_passHours_33 : decode cX5_passHours 33 = .ok (.iconst 1, 1) := by decide +kernel
theorem dX5_passHours_34 : decode cX5_passHours 34 = .ok (.invokevirtual 89, 3) := by decide +kernel
theorem dX5_passHours_37 : decode cX5_passHours 37 = .ok (.istore 5, 2) := by decide +kernel
theorem dX5_passHours_39 : decode cX5_passHours 39 = .ok (.iload 4, 2) := by decide +kernel
theorem dX5_passHours_41 : decode cX5_passHours 41 = .ok (.iload 5, 2) := by decide +kernel
theorem dX5_passHours_43 : decode cX5_passHours 43 = .ok (.if_icmp .eq 20, 3) := by decide +kernel
theorem dX5_passHours_46 : decode cX5_passHours 46 = .ok (.aload_n 0, 1) := by decide +kernel
theorem dX5_passHours_47 : decode cX5_passHours 47 = .ok (.getfield 33, 3) := by decide +kernel
theorem dX5_passHours_50 : decode cX5_passHours 50 = .ok (.iload_n 3, 1) := by decide +kernel
theorem dX5_passHours_51 : decode cX5_passHours 51 = .ok (.iconst 0, 1) := by decide +kernel
theorem dX5_passHours_52 : decode cX5_passHours 52 = .ok (.aload_n 0, 1) := by decide +kernel
theorem dX5_passHours_53 : decode cX5_passHours 53 = .ok (.iload 4, 2) := by decide +kernel
theorem dX5_passHours_55 : decode cX5_passHours 55 = .ok (.iload 5, 2) := by decide +kernel
theorem dX5_passHours_57 : decode cX5_passHours 57 = .ok (.invokevirtual 108, 3) := by decide +kernel
theorem dX5_passHours_60 : decode cX5_passHours 60 = .ok (.invokevirtual 75, 3) := by decide +kernel
theorem dX5_passHours_63 : decode cX5_passHours 63 = .ok (.iinc 3 1, 3) := by decide +kernel
theorem dX5_passHours_66 : decode cX5_passHours 66 = .ok (.goto (-57), 3) := by decide +kernel
theorem dX5_passHours_69 : decode cX5_passHours 69 = .ok (.aload_n 0, 1) := by decide +kernel
theorem dX5_passHours_70 : decode cX5_passHours 70 = .ok (.dup, 1) := by decide +kernel
theorem dX5_passHours_71 : decode cX5_passHours 71 = .ok (.getfield 50, 3) := by decide +kernel
theorem dX5_passHours_74 : decode cX5_passHours 74 = .ok (.iconst 1, 1) := by decide +kernel
theorem dX5_passHours_75 : decode cX5_passHours 75 = .ok (.iadd, 1) := by decide +kernel
theorem dX5_passHours_76 : decode cX5_passHours 76 = .ok (.putfield 50, 3) := by decide +kernel
theorem dX5_passHours_79 : decode cX5_passHours 79 = .ok (.iinc 2 1, 3) := by decide +kernel
theorem dX5_passHours_82 : decode cX5_passHours 82 = .ok (.goto (-80), 3) := by decide +kernel
theorem dX5_passHours_85 : decode cX5_passHours 85 = .ok (.return_, 1) := by decide +kernel
theorem dX5_stepFrom_0 : decode cX5_stepFrom 0 = .ok (.aload_n 0, 1) := by decide +kernel
theorem dX5_stepFrom_1 : decode cX5_stepFrom 1 = .ok (.iload_n 1, 1) := by decide +kernel
theorem dX5_stepFrom_2 : decode cX5_stepFrom 2 = .ok (.invokevirtual 111, 3) := by decide +kernel
theorem dX5_stepFrom_5 : decode cX5_stepFrom 5 = .ok (.istore_n 3, 1) := by decide +kernel
theorem dX5_stepFrom_6 : decode cX5_stepFrom 6 = .ok (.iload_n 3, 1) := by decide +kernel
theorem dX5_stepFrom_7 : decode cX5_stepFrom 7 = .ok (.bipush (-4), 2) := by decide +kernel
theorem dX5_stepFrom_9 : decode cX5_stepFrom 9 = .ok (.if_icmp .ne 14, 3) := by decide +kernel
theorem dX5_stepFrom_12 : decode cX5_stepFrom 12 = .ok (.aload_n 0, 1) := by decide +kernel
theorem dX5_stepFrom_13 : decode cX5_stepFrom 13 = .ok (.getfield 12, 3) := by decide +kernel
theorem dX5_stepFrom_16 : decode cX5_stepFrom 16 = .ok (.iload_n 1, 1) := by decide +kernel
theorem dX5_stepFrom_17 : decode cX5_stepFrom 17 = .ok (.invokevirtual 114, 3) := by decide +kernel
theorem dX5_stepFrom_20 : decode cX5_stepFrom 20 = .ok (.goto 9, 3) := by decide +kernel
theorem dX5_stepFrom_23 : decode cX5_stepFrom 23 = .ok (.aload_n 0, 1) := by decide +kernel
theorem dX5_stepFrom_24 : decode cX5_stepFrom 24 = .ok (.iload_n 3, 1) := by decide +kernel
theorem dX5_stepFrom_25 : decode cX5_stepFrom 25 = .ok (.iload_n 2, 1) := by decide +kernel
theorem dX5_stepFrom_26 : decode cX5_stepFrom 26 = .ok (.invokevirtual 117, 3) := by decide +kernel
theorem dX5_stepFrom_29 : decode cX5_stepFrom 29 = .ok (.istore 4, 2) := by decide +kernel
theorem dX5_stepFrom_31 : decode cX5_stepFrom 31 = .ok (.iload 4, 2) := by decide +kernel
theorem dX5_stepFrom_33 : decode cX5_stepFrom 33 = .ok (.bipush (-4), 2) := by decide +kernel
theorem dX5_stepFrom_35 : decode cX5_stepFrom 35 = .ok (.if_icmp .eq 21, 3) := by decide +kernel
theorem dX5_stepFrom_38 : decode cX5_stepFrom 38 = .ok (.aload_n 0, 1) := by decide +kernel
theorem dX5_stepFrom_39 : decode cX5_stepFrom 39 = .ok (.getfield 12, 3) := by decide +kernel
theorem dX5_stepFrom_42 : decode cX5_stepFrom 42 = .ok (.iload_n 1, 1) := by decide +kernel
theorem dX5_stepFrom_43 : decode cX5_stepFrom 43 = .ok (.iload 4, 2) := by decide +kernel
theorem dX5_stepFrom_45 : decode cX5_stepFrom 45 = .ok (.invokevirtual 120, 3) := by decide +kernel
theorem dX5_stepFrom_48 : decode cX5_stepFrom 48 = .ok (.ifCond .le 8, 3) := by decide +kernel
theorem dX5_stepFrom_51 : decode cX5_stepFrom 51 = .ok (.iload 4, 2) := by decide +kernel
theorem dX5_stepFrom_53 : decode cX5_stepFrom 53 = .ok (.goto 4, 3) := by decide +kernel
theorem dX5_stepFrom_56 : decode cX5_stepFrom 56 = .ok (.iload_n 1, 1) := by decide +kernel
theorem dX5_stepFrom_57 : decode cX5_stepFrom 57 = .ok (.ireturn, 1) := by decide +kernel
theorem dX5_passYear_0 : decode cX5_passYear 0 = .ok (.aload_n 0, 1) := by decide +kernel
theorem dX5_passYear_1 : decode cX5_passYear 1 = .ok (.dup, 1) := by decide +kernel
theorem dX5_passYear_2 : decode cX5_passYear 2 = .ok (.getfield 53, 3) := by decide +kernel
theorem dX5_passYear_5 : decode cX5_passYear 5 = .ok (.iconst 1, 1) := by decide +kernel
theorem dX5_passYear_6 : decode cX5_passYear 6 = .ok (.iadd, 1) := by decide +kernel
theorem dX5_passYear_7 : decode cX5_passYear 7 = .ok (.putfield 53, 3) := by decide +kernel
theorem dX5_passYear_10 : decode cX5_passYear 10 = .ok (.iconst 0, 1) := by decide +kernel
theorem dX5_passYear_11 : decode cX5_passYear 11 = .ok (.istore_n 1, 1) := by decide +kernel
theorem dX5_passYear_12 : decode cX5_passYear 12 = .ok (.iconst 0, 1) := by decide +kernel
theorem dX5_passYear_13 : decode cX5_passYear 13 = .ok (.istore_n 2, 1) := by decide +kernel
theorem dX5_passYear_14 : decode cX5_passYear 14 = .ok (.iload_n 2, 1) := by decide +kernel
theorem dX5_passYear_15 : decode cX5_passYear 15 = .ok (.aload_n 0, 1) := by decide +kernel
theorem dX5_passYear_16 : decode cX5_passYear 16 = .ok (.getfield 43, 3) := by decide +kernel
theorem dX5_passYear_19 : decode cX5_passYear 19 = .ok (.if_icmp .ge 53, 3) := by decide +kernel
theorem dX5_passYear_22 : decode cX5_passYear 22 = .ok (.aload_n 0, 1) := by decide +kernel
theorem dX5_passYear_23 : decode cX5_passYear 23 = .ok (.iload_n 2, 1) := by decide +kernel
theorem dX5_passYear_24 : decode cX5_passYear 24 = .ok (.invokevirtual 96, 3) := by decide +kernel
theorem dX5_passYear_27 : decode cX5_passYear 27 = .ok (.ifCond .ne 39, 3) := by decide +kernel
theorem dX5_passYear_30 : decode cX5_passYear 30 = .ok (.aload_n 0, 1) := by decide +kernel
theorem dX5_passYear_31 : decode cX5_passYear 31 = .ok (.getfield 23, 3) := by decide +kernel
theorem dX5_passYear_34 : decode cX5_passYear 34 = .ok (.iload_n 2, 1) := by decide +kernel
theorem dX5_passYear_35 : decode cX5_passYear 35 = .ok (.iconst 2, 1) := by decide +kernel
theorem dX5_passYear_36 : decode cX5_passYear 36 = .ok (.invokevirtual 89, 3) := by decide +kernel
theorem dX5_passYear_39 : decode cX5_passYear 39 = .ok (.iconst 1, 1) := by decide +kernel
theorem dX5_passYear_40 : decode cX5_passYear 40 = .ok (.iadd, 1) := by decide +kernel
theorem dX5_passYear_41 : decode cX5_passYear 41 = .ok (.istore_n 3, 1) := by decide +kernel
theorem dX5_passYear_42 : decode cX5_passYear 42 = .ok (.aload_n 0, 1) := by decide +kernel
theorem dX5_passYear_43 : decode cX5_passYear 43 = .ok (.getfield 23, 3) := by decide +kernel
theorem dX5_passYear_46 : decode cX5_passYear 46 = .ok (.iload_n 2, 1) := by decide +kernel
theorem dX5_passYear_47 : decode cX5_passYear 47 = .ok (.iconst 2, 1) := by decide +kernel
theorem dX5_passYear_48 : decode cX5_passYear 48 = .ok (.iload_n 3, 1) := by decide +kernel
theorem dX5_passYear_49 : decode cX5_passYear 49 = .ok (.invokevirtual 75, 3) := by decide +kernel
theorem dX5_passYear_52 : decode cX5_passYear 52 = .ok (.iload_n 3, 1) := by decide +kernel
theorem dX5_passYear_53 : decode cX5_passYear 53 = .ok (.bipush 60, 2) := by decide +kernel
theorem dX5_passYear_55 : decode cX5_passYear 55 = .ok (.if_icmp .lt 11, 3) := by decide +kernel
theorem dX5_passYear_58 : decode cX5_passYear 58 = .ok (.aload_n 0, 1) := by decide +kernel
theorem dX5_passYear_59 : decode cX5_passYear 59 = .ok (.iload_n 2, 1) := by decide +kernel
theorem dX5_passYear_60 : decode cX5_passYear 60 = .ok (.invokevirtual 123, 3) := by decide +kernel
theorem dX5_passYear_63 : decode cX5_passYear 63 = .ok (.iinc 1 1, 3) := by decide +kernel
theorem dX5_passYear_66 : decode cX5_passYear 66 = .ok (.iinc 2 1, 3) := by decide +kernel
theorem dX5_passYear_69 : decode cX5_passYear 69 = .ok (.goto (-55), 3) := by decide +kernel
theorem dX5_passYear_72 : decode cX5_passYear 72 = .ok (.iload_n 1, 1) := by decide +kernel
theorem dX5_passYear_73 : decode cX5_passYear 73 = .ok (.ireturn, 1) := by decide +kernel
theorem dX5_paintPost_0 : decode cX5_paintPost 0 = .ok (.aload_n 0, 1) := by decide +kernel
theorem dX5_paintPost_1 : decode cX5_paintPost 1 = .ok (.getfield 23, 3) := by decide +kernel
theorem dX5_paintPost_4 : decode cX5_paintPost 4 = .ok (.iload_n 1, 1) := by decide +kernel
theorem dX5_paintPost_5 : decode cX5_paintPost 5 = .ok (.iconst 1, 1) := by decide +kernel
theorem dX5_paintPost_6 : decode cX5_paintPost 6 = .ok (.invokevirtual 89, 3) := by decide +kernel
theorem dX5_paintPost_9 : decode cX5_paintPost 9 = .ok (.istore_n 2, 1) := by decide +kernel
theorem dX5_paintPost_10 : decode cX5_paintPost 10 = .ok (.iconst 0, 1) := by decide +kernel
theorem dX5_paintPost_11 : decode cX5_paintPost 11 = .ok (.istore_n 3, 1) := by decide +kernel
theorem dX5_paintPost_12 : decode cX5_paintPost 12 = .ok (.iconst 0, 1) := by decide +kernel
theorem dX5_paintPost_13 : decode cX5_paintPost 13 = .ok (.istore 4, 2) := by decide +kernel
theorem dX5_paintPost_15 : decode cX5_paintPost 15 = .ok (.iload 4, 2) := by decide +kernel
theorem dX5_paintPost_17 : decode cX5_paintPost 17 = .ok (.bipush 8, 2) := by decide +kernel
theorem dX5_paintPost_19 : decode cX5_paintPost 19 = .ok (.if_icmp .ge 89, 3) := by decide +kernel
theorem dX5_paintPost_22 : decode cX5_paintPost 22 = .ok (.aload_n 0, 1) := by decide +kernel
theorem dX5_paintPost_23 : decode cX5_paintPost 23 = .ok (.iload 4, 2) := by decide +kernel
theorem dX5_paintPost_25 : decode cX5_paintPost 25 = .ok (.invokevirtual 71, 3) := by decide +kernel
theorem dX5_paintPost_28 : decode cX5_paintPost 28 = .ok (.ifCond .eq 16, 3) := by decide +kernel
theorem dX5_paintPost_31 : decode cX5_paintPost 31 = .ok (.aload_n 0, 1) := by decide +kernel
theorem dX5_paintPost_32 : decode cX5_paintPost 32 = .ok (.getfield 12, 3) := by decide +kernel
theorem dX5_paintPost_35 : decode cX5_paintPost 35 = .ok (.iload_n 2, 1) := by decide +kernel
theorem dX5_paintPost_36 : decode cX5_paintPost 36 = .ok (.iload 4, 2) := by decide +kernel
theorem dX5_paintPost_38 : decode cX5_paintPost 38 = .ok (.invokevirtual 126, 3) := by decide +kernel
theorem dX5_paintPost_41 : decode cX5_paintPost 41 = .ok (.goto 5, 3) := by decide +kernel
theorem dX5_paintPost_44 : decode cX5_paintPost 44 = .ok (.bipush (-4), 2) := by decide +kernel
theorem dX5_paintPost_46 : decode cX5_paintPost 46 = .ok (.istore 5, 2) := by decide +kernel
theorem dX5_paintPost_48 : decode cX5_paintPost 48 = .ok (.aload_n 0, 1) := by decide +kernel
theorem dX5_paintPost_49 : decode cX5_paintPost 49 = .ok (.getfield 27, 3) := by decide +kernel
theorem dX5_paintPost_52 : decode cX5_paintPost 52 = .ok (.iload_n 1, 1) := by decide +kernel
theorem dX5_paintPost_53 : decode cX5_paintPost 53 = .ok (.iload 4, 2) := by decide +kernel
theorem dX5_paintPost_55 : decode cX5_paintPost 55 = .ok (.iload 5, 2) := by decide +kernel
theorem dX5_paintPost_57 : decode cX5_paintPost 57 = .ok (.invokevirtual 75, 3) := by decide +kernel
theorem dX5_paintPost_60 : decode cX5_paintPost 60 = .ok (.aload_n 0, 1) := by decide +kernel
theorem dX5_paintPost_61 : decode cX5_paintPost 61 = .ok (.getfield 30, 3) := by decide +kernel
theorem dX5_paintPost_64 : decode cX5_paintPost 64 = .ok (.iload_n 1, 1) := by decide +kernel
theorem dX5_paintPost_65 : decode cX5_paintPost 65 = .ok (.iload 4, 2) := by decide +kernel
theorem dX5_paintPost_67 : decode cX5_paintPost 67 = .ok (.iload 5, 2) := by decide +kernel
theorem dX5_paintPost_69 : decode cX5_paintPost 69 = .ok (.bipush (-4), 2) := by decide +kernel
theorem dX5_paintPost_71 : decode cX5_paintPost 71 = .ok (.if_icmp .ne 8, 3) := by decide +kernel
theorem dX5_paintPost_74 : decode cX5_paintPost 74 = .ok (.bipush (-4), 2) := by decide +kernel
theorem dX5_paintPost_76 : decode cX5_paintPost 76 = .ok (.goto 13, 3) := by decide +kernel
theorem dX5_paintPost_79 : decode cX5_paintPost 79 = .ok (.aload_n 0, 1) := by decide +kernel
theorem dX5_paintPost_80 : decode cX5_paintPost 80 = .ok (.getfield 12, 3) := by decide +kernel
theorem dX5_paintPost_83 : decode cX5_paintPost 83 = .ok (.iload_n 2, 1) := by decide +kernel
theorem dX5_paintPost_84 : decode cX5_paintPost 84 = .ok (.iload 4, 2) := by decide +kernel
theorem dX5_paintPost_86 : decode cX5_paintPost 86 = .ok (.invokevirtual 129, 3) := by decide +kernel
theorem dX5_paintPost_89 : decode cX5_paintPost 89 = .ok (.invokevirtual 75, 3) := by decide +kernel
theorem dX5_paintPost_92 : decode cX5_paintPost 92 = .ok (.iload 5, 2) := by decide +kernel
theorem dX5_paintPost_94 : decode cX5_paintPost 94 = .ok (.bipush (-4), 2) := by decide +kernel
theorem dX5_paintPost_96 : decode cX5_paintPost 96 = .ok (.if_icmp .eq 6, 3) := by decide +kernel
theorem dX5_paintPost_99 : decode cX5_paintPost 99 = .ok (.iinc 3 1, 3) := by decide +kernel
theorem dX5_paintPost_102 : decode cX5_paintPost 102 = .ok (.iinc 4 1, 3) := by decide +kernel
theorem dX5_paintPost_105 : decode cX5_paintPost 105 = .ok (.goto (-90), 3) := by decide +kernel
theorem dX5_paintPost_108 : decode cX5_paintPost 108 = .ok (.iload_n 3, 1) := by decide +kernel
theorem dX5_paintPost_109 : decode cX5_paintPost 109 = .ok (.ireturn, 1) := by decide +kernel
theorem dX5_movePost_0 : decode cX5_movePost 0 = .ok (.aload_n 0, 1) := by decide +kernel
theorem dX5_movePost_1 : decode cX5_movePost 1 = .ok (.getfield 23, 3) := by decide +kernel
theorem dX5_movePost_4 : decode cX5_movePost 4 = .ok (.iload_n 1, 1) := by decide +kernel
theorem dX5_movePost_5 : decode cX5_movePost 5 = .ok (.iconst 1, 1) := by decide +kernel
theorem dX5_movePost_6 : decode cX5_movePost 6 = .ok (.iload_n 2, 1) := by decide +kernel
theorem dX5_movePost_7 : decode cX5_movePost 7 = .ok (.invokevirtual 75, 3) := by decide +kernel
theorem dX5_movePost_10 : decode cX5_movePost 10 = .ok (.return_, 1) := by decide +kernel
theorem dX5_retirePost_0 : decode cX5_retirePost 0 = .ok (.aload_n 0, 1) := by decide +kernel
theorem dX5_retirePost_1 : decode cX5_retirePost 1 = .ok (.getfield 23, 3) := by decide +kernel
theorem dX5_retirePost_4 : decode cX5_retirePost 4 = .ok (.iload_n 1, 1) := by decide +kernel
theorem dX5_retirePost_5 : decode cX5_retirePost 5 = .ok (.iconst 1, 1) := by decide +kernel
theorem dX5_retirePost_6 : decode cX5_retirePost 6 = .ok (.bipush (-4), 2) := by decide +kernel
theorem dX5_retirePost_8 : decode cX5_retirePost 8 = .ok (.invokevirtual 75, 3) := by decide +kernel
theorem dX5_retirePost_11 : decode cX5_retirePost 11 = .ok (.iconst 0, 1) := by decide +kernel
theorem dX5_retirePost_12 : decode cX5_retirePost 12 = .ok (.istore_n 2, 1) := by decide +kernel
theorem dX5_retirePost_13 : decode cX5_retirePost 13 = .ok (.iload_n 2, 1) := by decide +kernel
theorem dX5_retirePost_14 : decode cX5_retirePost 14 = .ok (.bipush 8, 2) := by decide +kernel
theorem dX5_retirePost_16 : decode cX5_retirePost 16 = .ok (.if_icmp .ge 31, 3) := by decide +kernel
theorem dX5_retirePost_19 : decode cX5_retirePost 19 = .ok (.aload_n 0, 1) := by decide +kernel
theorem dX5_retirePost_20 : decode cX5_retirePost 20 = .ok (.getfield 27, 3) := by decide +kernel
theorem dX5_retirePost_23 : decode cX5_retirePost 23 = .ok (.iload_n 1, 1) := by decide +kernel
theorem dX5_retirePost_24 : decode cX5_retirePost 24 = .ok (.iload_n 2, 1) := by decide +kernel
theorem dX5_retirePost_25 : decode cX5_retirePost 25 = .ok (.bipush (-4), 2) := by decide +kernel
theorem dX5_retirePost_27 : decode cX5_retirePost 27 = .ok (.invokevirtual 75, 3) := by decide +kernel
theorem dX5_retirePost_30 : decode cX5_retirePost 30 = .ok (.aload_n 0, 1) := by decide +kernel
theorem dX5_retirePost_31 : decode cX5_retirePost 31 = .ok (.getfield 30, 3) := by decide +kernel
theorem dX5_retirePost_34 : decode cX5_retirePost 34 = .ok (.iload_n 1, 1) := by decide +kernel
theorem dX5_retirePost_35 : decode cX5_retirePost 35 = .ok (.iload_n 2, 1) := by decide +kernel
theorem dX5_retirePost_36 : decode cX5_retirePost 36 = .ok (.bipush (-4), 2) := by decide +kernel
theorem dX5_retirePost_38 : decode cX5_retirePost 38 = .ok (.invokevirtual 75, 3) := by decide +kernel
theorem dX5_retirePost_41 : decode cX5_retirePost 41 = .ok (.iinc 2 1, 3) := by decide +kernel
theorem dX5_retirePost_44 : decode cX5_retirePost 44 = .ok (.goto (-31), 3) := by decide +kernel
theorem dX5_retirePost_47 : decode cX5_retirePost 47 = .ok (.return_, 1) := by decide +kernel
theorem dX5_turnInto_0 : decode cX5_turnInto 0 = .ok (.aload_n 0, 1) := by decide +kernel
theorem dX5_turnInto_1 : decode cX5_turnInto 1 = .ok (.getfield 23, 3) := by decide +kernel
theorem dX5_turnInto_4 : decode cX5_turnInto 4 = .ok (.iload_n 1, 1) := by decide +kernel
theorem dX5_turnInto_5 : decode cX5_turnInto 5 = .ok (.iconst 0, 1) := by decide +kernel
theorem dX5_turnInto_6 : decode cX5_turnInto 6 = .ok (.iload_n 2, 1) := by decide +kernel
theorem dX5_turnInto_7 : decode cX5_turnInto 7 = .ok (.invokevirtual 75, 3) := by decide +kernel
theorem dX5_turnInto_10 : decode cX5_turnInto 10 = .ok (.return_, 1) := by decide +kernel
theorem dX5_twist_0 : decode cX5_twist 0 = .ok (.aload_n 0, 1) := by decide +kernel
theorem dX5_twist_1 : decode cX5_twist 1 = .ok (.iload_n 1, 1) := by decide +kernel
theorem dX5_twist_2 : decode cX5_twist 2 = .ok (.putfield 56, 3) := by decide +kernel
theorem dX5_twist_5 : decode cX5_twist 5 = .ok (.return_, 1) := by decide +kernel
theorem dX5_dropPosts_0 : decode cX5_dropPosts 0 = .ok (.aload_n 0, 1) := by decide +kernel
theorem dX5_dropPosts_1 : decode cX5_dropPosts 1 = .ok (.iconst 0, 1) := by decide +kernel
theorem dX5_dropPosts_2 : decode cX5_dropPosts 2 = .ok (.putfield 43, 3) := by decide +kernel
theorem dX5_dropPosts_5 : decode cX5_dropPosts 5 = .ok (.return_, 1) := by decide +kernel
theorem dX5_standPlain_0 : decode cX5_standPlain 0 = .ok (.aload_n 0, 1) := by decide +kernel
theorem dX5_standPlain_1 : decode cX5_standPlain 1 = .ok (.getfield 43, 3) := by decide +kernel
theorem dX5_standPlain_4 : decode cX5_standPlain 4 = .ok (.bipush 8, 2) := by decide +kernel
theorem dX5_standPlain_6 : decode cX5_standPlain 6 = .ok (.if_icmp .ge 61, 3) := by decide +kernel
theorem dX5_standPlain_9 : decode cX5_standPlain 9 = .ok (.aload_n 0, 1) := by decide +kernel
theorem dX5_standPlain_10 : decode cX5_standPlain 10 = .ok (.getfield 23, 3) := by decide +kernel
theorem dX5_standPlain_13 : decode cX5_standPlain 13 = .ok (.aload_n 0, 1) := by decide +kernel
theorem dX5_standPlain_14 : decode cX5_standPlain 14 = .ok (.getfield 43, 3) := by decide +kernel
theorem dX5_standPlain_17 : decode cX5_standPlain 17 = .ok (.iconst 0, 1) := by decide +kernel
theorem dX5_standPlain_18 : decode cX5_standPlain 18 = .ok (.iconst 0, 1) := by decide +kernel
theorem dX5_standPlain_19 : decode cX5_standPlain 19 = .ok (.invokevirtual 75, 3) := by decide +kernel
theorem dX5_standPlain_22 : decode cX5_standPlain 22 = .ok (.aload_n 0, 1) := by decide +kernel
theorem dX5_standPlain_23 : decode cX5_standPlain 23 = .ok (.getfield 23, 3) := by decide +kernel
theorem dX5_standPlain_26 : decode cX5_standPlain 26 = .ok (.aload_n 0, 1) := by decide +kernel
theorem dX5_standPlain_27 : decode cX5_standPlain 27 = .ok (.getfield 43, 3) := by decide +kernel
theorem dX5_standPlain_30 : decode cX5_standPlain 30 = .ok (.iconst 1, 1) := by decide +kernel
theorem dX5_standPlain_31 : decode cX5_standPlain 31 = .ok (.iload_n 1, 1) := by decide +kernel
theorem dX5_standPlain_32 : decode cX5_standPlain 32 = .ok (.invokevirtual 75, 3) := by decide +kernel
theorem dX5_standPlain_35 : decode cX5_standPlain 35 = .ok (.aload_n 0, 1) := by decide +kernel
theorem dX5_standPlain_36 : decode cX5_standPlain 36 = .ok (.getfield 23, 3) := by decide +kernel
theorem dX5_standPlain_39 : decode cX5_standPlain 39 = .ok (.aload_n 0, 1) := by decide +kernel
theorem dX5_standPlain_40 : decode cX5_standPlain 40 = .ok (.getfield 43, 3) := by decide +kernel
theorem dX5_standPlain_43 : decode cX5_standPlain 43 = .ok (.iconst 2, 1) := by decide +kernel
theorem dX5_standPlain_44 : decode cX5_standPlain 44 = .ok (.iconst 0, 1) := by decide +kernel
theorem dX5_standPlain_45 : decode cX5_standPlain 45 = .ok (.invokevirtual 75, 3) := by decide +kernel
theorem dX5_standPlain_48 : decode cX5_standPlain 48 = .ok (.aload_n 0, 1) := by decide +kernel
theorem dX5_standPlain_49 : decode cX5_standPlain 49 = .ok (.aload_n 0, 1) := by decide +kernel
theorem dX5_standPlain_50 : decode cX5_standPlain 50 = .ok (.getfield 43, 3) := by decide +kernel
theorem dX5_standPlain_53 : decode cX5_standPlain 53 = .ok (.invokevirtual 81, 3) := by decide +kernel
theorem dX5_standPlain_56 : decode cX5_standPlain 56 = .ok (.pop, 1) := by decide +kernel
theorem dX5_standPlain_57 : decode cX5_standPlain 57 = .ok (.aload_n 0, 1) := by decide +kernel
theorem dX5_standPlain_58 : decode cX5_standPlain 58 = .ok (.dup, 1) := by decide +kernel
theorem dX5_standPlain_59 : decode cX5_standPlain 59 = .ok (.getfield 43, 3) := by decide +kernel
theorem dX5_standPlain_62 : decode cX5_standPlain 62 = .ok (.iconst 1, 1) := by decide +kernel
theorem dX5_standPlain_63 : decode cX5_standPlain 63 = .ok (.iadd, 1) := by decide +kernel
theorem dX5_standPlain_64 : decode cX5_standPlain 64 = .ok (.putfield 43, 3) := by decide +kernel
theorem dX5_standPlain_67 : decode cX5_standPlain 67 = .ok (.return_, 1) := by decide +kernel
theorem dX6_init_0 : decode cX6_init 0 = .ok (.aload_n 0, 1) := by decide +kernel
theorem dX6_init_1 : decode cX6_init 1 = .ok (.invokespecial 1, 3) := by decide +kernel
theorem dX6_init_4 : decode cX6_init 4 = .ok (.aload_n 0, 1) := by decide +kernel
theorem dX6_init_5 : decode cX6_init 5 = .ok (.new 7, 3) := by decide +kernel
theorem dX6_init_8 : decode cX6_init 8 = .ok (.dup, 1) := by decide +kernel
theorem dX6_init_9 : decode cX6_init 9 = .ok (.invokespecial 9, 3) := by decide +kernel
theorem dX6_init_12 : decode cX6_init 12 = .ok (.putfield 10, 3) := by decide +kernel
theorem dX6_init_15 : decode cX6_init 15 = .ok (.aload_n 0, 1) := by decide +kernel
theorem dX6_init_16 : decode cX6_init 16 = .ok (.new 16, 3) := by decide +kernel
theorem dX6_init_19 : decode cX6_init 19 = .ok (.dup, 1) := by decide +kernel
theorem dX6_init_20 : decode cX6_init 20 = .ok (.invokespecial 18, 3) := by decide +kernel
theorem dX6_init_23 : decode cX6_init 23 = .ok (.putfield 19, 3) := by decide +kernel
theorem dX6_init_26 : decode cX6_init 26 = .ok (.aload_n 0, 1) := by decide +kernel
theorem dX6_init_27 : decode cX6_init 27 = .ok (.new 16, 3) := by decide +kernel
theorem dX6_init_30 : decode cX6_init 30 = .ok (.dup, 1) := by decide +kernel
theorem dX6_init_31 : decode cX6_init 31 = .ok (.invokespecial 18, 3) := by decide +kernel
theorem dX6_init_34 : decode cX6_init 34 = .ok (.putfield 23, 3) := by decide +kernel
theorem dX6_init_37 : decode cX6_init 37 = .ok (.aload_n 0, 1) := by decide +kernel
theorem dX6_init_38 : decode cX6_init 38 = .ok (.new 26, 3) := by decide +kernel
theorem dX6_init_41 : decode cX6_init 41 = .ok (.dup, 1) := by decide +kernel
theorem dX6_init_42 : decode cX6_init 42 = .ok (.bipush 8, 2) := by decide +kernel
theorem dX6_init_44 : decode cX6_init 44 = .ok (.invokespecial 28, 3) := by decide +kernel
theorem dX6_init_47 : decode cX6_init 47 = .ok (.putfield 31, 3) := by decide +kernel
theorem dX6_init_50 : decode cX6_init 50 = .ok (.aload_n 0, 1) := by decide +kernel
theorem dX6_init_51 : decode cX6_init 51 = .ok (.new 26, 3) := by decide +kernel
theorem dX6_init_54 : decode cX6_init 54 = .ok (.dup, 1) := by decide +kernel
theorem dX6_init_55 : decode cX6_init 55 = .ok (.iconst 2, 1) := by decide +kernel
theorem dX6_init_56 : decode cX6_init 56 = .ok (.invokespecial 28, 3) := by decide +kernel
theorem dX6_init_59 : decode cX6_init 59 = .ok (.putfield 35, 3) := by decide +kernel
theorem dX6_init_62 : decode cX6_init 62 = .ok (.aload_n 0, 1) := by decide +kernel
theorem dX6_init_63 : decode cX6_init 63 = .ok (.new 38, 3) := by decide +kernel
theorem dX6_init_66 : decode cX6_init 66 = .ok (.dup, 1) := by decide +kernel
theorem dX6_init_67 : decode cX6_init 67 = .ok (.invokespecial 40, 3) := by decide +kernel
theorem dX6_init_70 : decode cX6_init 70 = .ok (.putfield 41, 3) := by decide +kernel
theorem dX6_init_73 : decode cX6_init 73 = .ok (.aload_n 0, 1) := by decide +kernel
theorem dX6_init_74 : decode cX6_init 74 = .ok (.new 38, 3) := by decide +kernel
theorem dX6_init_77 : decode cX6_init 77 = .ok (.dup, 1) := by decide +kernel
theorem dX6_init_78 : decode cX6_init 78 = .ok (.invokespecial 40, 3) := by decide +kernel
theorem dX6_init_81 : decode cX6_init 81 = .ok (.putfield 45, 3) := by decide +kernel
theorem dX6_init_84 : decode cX6_init 84 = .ok (.iconst 0, 1) := by decide +kernel
theorem dX6_init_85 : decode cX6_init 85 = .ok (.istore_n 1, 1) := by decide +kernel
theorem dX6_init_86 : decode cX6_init 86 = .ok (.iload_n 1, 1) := by decide +kernel
theorem dX6_init_87 : decode cX6_init 87 = .ok (.ldc 48, 2) := by decide +kernel
theorem dX6_init_89 : decode cX6_init 89 = .ok (.invokevirtual 50, 3) := by decide +kernel
theorem dX6_init_92 : decode cX6_init 92 = .ok (.if_icmp .ge 23, 3) := by decide +kernel
theorem dX6_init_95 : decode cX6_init 95 = .ok (.aload_n 0, 1) := by decide +kernel
theorem dX6_init_96 : decode cX6_init 96 = .ok (.getfield 10, 3) := by decide +kernel
theorem dX6_init_99 : decode cX6_init 99 = .ok (.ldc 48, 2) := by decide +kernel
theorem dX6_init_101 : decode cX6_init 101 = .ok (.iload_n 1, 1) := by decide +kernel
theorem dX6_init_102 : decode cX6_init 102 = .ok (.invokevirtual 56, 3) := by decide +kernel
theorem dX6_init_105 : decode cX6_init 105 = .ok (.invokevirtual 60, 3) := by decide +kernel
theorem dX6_init_108 : decode cX6_init 108 = .ok (.pop, 1) := by decide +kernel
theorem dX6_init_109 : decode cX6_init 109 = .ok (.iinc 1 1, 3) := by decide +kernel
theorem dX6_init_112 : decode cX6_init 112 = .ok (.goto (-26), 3) := by decide +kernel
theorem dX6_init_115 : decode cX6_init 115 = .ok (.aload_n 0, 1) := by decide +kernel
theorem dX6_init_116 : decode cX6_init 116 = .ok (.getfield 10, 3) := by decide +kernel
theorem dX6_init_119 : decode cX6_init 119 = .ok (.aload_n 0, 1) := by decide +kernel
theorem dX6_init_120 : decode cX6_init 120 = .ok (.getfield 19, 3) := by decide +kernel
theorem dX6_init_123 : decode cX6_init 123 = .ok (.invokevirtual 64, 3) := by decide +kernel
theorem dX6_init_126 : decode cX6_init 126 = .ok (.pop, 1) := by decide +kernel
theorem dX6_init_127 : decode cX6_init 127 = .ok (.aload_n 0, 1) := by decide +kernel
theorem dX6_init_128 : decode cX6_init 128 = .ok (.getfield 19, 3) := by decide +kernel
theorem dX6_init_131 : decode cX6_init 131 = .ok (.invokevirtual 68, 3) := by decide +kernel
theorem dX6_init_134 : decode cX6_init 134 = .ok (.aload_n 0, 1) := by decide +kernel
theorem dX6_init_135 : decode cX6_init 135 = .ok (.getfield 10, 3) := by decide +kernel
theorem dX6_init_138 : decode cX6_init 138 = .ok (.invokevirtual 71, 3) := by decide +kernel
theorem dX6_init_141 : decode cX6_init 141 = .ok (.pop, 1) := by decide +kernel
theorem dX6_init_142 : decode cX6_init 142 = .ok (.return_, 1) := by decide +kernel
theorem dX6_write_0 : decode cX6_write 0 = .ok (.iload_n 1, 1) := by decide +kernel
theorem dX6_write_1 : decode cX6_write 1 = .ok (.bipush 32, 2) := by decide +kernel
theorem dX6_write_3 : decode cX6_write 3 = .ok (.if_icmp .lt 9, 3) := by decide +kernel
theorem dX6_write_6 : decode cX6_write 6 = .ok (.iload_n 1, 1) := by decide +kernel
theorem dX6_write_7 : decode cX6_write 7 = .ok (.bipush 126, 2) := by decide +kernel
theorem dX6_write_9 : decode cX6_write 9 = .ok (.if_icmp .le 5, 3) := by decide +kernel
theorem dX6_write_12 : decode cX6_write 12 = .ok (.iconst (-1), 1) := by decide +kernel
theorem dX6_write_13 : decode cX6_write 13 = .ok (.ireturn, 1) := by decide +kernel
theorem dX6_write_14 : decode cX6_write 14 = .ok (.aload_n 0, 1) := by decide +kernel
theorem dX6_write_15 : decode cX6_write 15 = .ok (.getfield 10, 3) := by decide +kernel
theorem dX6_write_18 : decode cX6_write 18 = .ok (.iload_n 1, 1) := by decide +kernel
theorem dX6_write_19 : decode cX6_write 19 = .ok (.invokevirtual 60, 3) := by decide +kernel
theorem dX6_write_22 : decode cX6_write 22 = .ok (.ireturn, 1) := by decide +kernel
theorem dX6_wipe_0 : decode cX6_wipe 0 = .ok (.aload_n 0, 1) := by decide +kernel
theorem dX6_wipe_1 : decode cX6_wipe 1 = .ok (.getfield 10, 3) := by decide +kernel
theorem dX6_wipe_4 : decode cX6_wipe 4 = .ok (.invokevirtual 71, 3) := by decide +kernel
theorem dX6_wipe_7 : decode cX6_wipe 7 = .ok (.ireturn, 1) := by decide +kernel
theorem dX6_fault_0 : decode cX6_fault 0 = .ok (.aload_n 0, 1) := by decide +kernel
theorem dX6_fault_1 : decode cX6_fault 1 = .ok (.getfield 10, 3) := by decide +kernel
theorem dX6_fault_4 : decode cX6_fault 4 = .ok (.aload_n 0, 1) := by decide +kernel
theorem dX6_fault_5 : decode cX6_fault 5 = .ok (.getfield 23, 3) := by decide +kernel
theorem dX6_fault_8 : decode cX6_fault 8 = .ok (.invokevirtual 64, 3) := by decide +kernel
theorem dX6_fault_11 : decode cX6_fault 11 = .ok (.ireturn, 1) := by decide +kernel
theorem dX6_lay_0 : decode cX6_lay 0 = .ok (.aload_n 0, 1) := by decide +kernel
theorem dX6_lay_1 : decode cX6_lay 1 = .ok (.getfield 10, 3) := by decide +kernel
theorem dX6_lay_4 : decode cX6_lay 4 = .ok (.aload_n 0, 1) := by decide +kernel
theorem dX6_lay_5 : decode cX6_lay 5 = .ok (.getfield 23, 3) := by decide +kernel
theorem dX6_lay_8 : decode cX6_lay 8 = .ok (.invokevirtual 64, 3) := by decide +kernel
theorem dX6_lay_11 : decode cX6_lay 11 = .ok (.bipush (-4), 2) := by decide +kernel
theorem dX6_lay_13 : decode cX6_lay 13 = .ok (.if_icmp .ne 25, 3) := by decide +kernel
theorem dX6_lay_16 : decode cX6_lay 16 = .ok (.aload_n 0, 1) := by decide +kernel
theorem dX6_lay_17 : decode cX6_lay 17 = .ok (.getfield 23, 3) := by decide +kernel
theorem dX6_lay_20 : decode cX6_lay 20 = .ok (.invokevirtual 74, 3) := by decide +kernel
theorem dX6_lay_23 : decode cX6_lay 23 = .ok (.iconst 1, 1) := by decide +kernel
theorem dX6_lay_24 : decode cX6_lay 24 = .ok (.if_icmp .lt 14, 3) := by decide +kernel
theorem dX6_lay_27 : decode cX6_lay 27 = .ok (.aload_n 0, 1) := by decide +kernel
theorem dX6_lay_28 : decode cX6_lay 28 = .ok (.getfield 23, 3) := by decide +kernel
theorem dX6_lay_31 : decode cX6_lay 31 = .ok (.invokevirtual 77, 3) := by decide +kernel
theorem dX6_lay_34 : decode cX6_lay 34 = .ok (.iconst 1, 1) := by decide +kernel
theorem dX6_lay_35 : decode cX6_lay 35 = .ok (.if_icmp .ge 6, 3) := by decide +kernel
theorem dX6_lay_38 : decode cX6_lay 38 = .ok (.bipush (-2), 2) := by decide +kernel
theorem dX6_lay_40 : decode cX6_lay 40 = .ok (.ireturn, 1) := by decide +kernel
theorem dX6_lay_41 : decode cX6_lay 41 = .ok (.aload_n 0, 1) := by decide +kernel
theorem dX6_lay_42 : decode cX6_lay 42 = .ok (.getfield 23, 3) := by decide +kernel
theorem dX6_lay_45 : decode cX6_lay 45 = .ok (.invokevirtual 68, 3) := by decide +kernel
theorem dX6_lay_48 : decode cX6_lay 48 = .ok (.aload_n 0, 1) := by decide +kernel
theorem dX6_lay_49 : decode cX6_lay 49 = .ok (.getfield 19, 3) := by decide +kernel
theorem dX6_lay_52 : decode cX6_lay 52 = .ok (.aload_n 0, 1) := by decide +kernel
theorem dX6_lay_53 : decode cX6_lay 53 = .ok (.getfield 23, 3) := by decide +kernel
theorem dX6_lay_56 : decode cX6_lay 56 = .ok (.invokevirtual 80, 3) := by decide +kernel
theorem dX6_lay_59 : decode cX6_lay 59 = .ok (.aload_n 0, 1) := by decide +kernel
theorem dX6_lay_60 : decode cX6_lay 60 = .ok (.getfield 31, 3) := by decide +kernel
theorem dX6_lay_63 : decode cX6_lay 63 = .ok (.invokevirtual 84, 3) := by decide +kernel
theorem dX6_lay_66 : decode cX6_lay 66 = .ok (.aload_n 0, 1) := by decide +kernel
theorem dX6_lay_67 : decode cX6_lay 67 = .ok (.getfield 35, 3) := by decide +kernel
theorem dX6_lay_70 : decode cX6_lay 70 = .ok (.invokevirtual 84, 3) := by decide +kernel
theorem dX6_lay_73 : decode cX6_lay 73 = .ok (.aload_n 0, 1) := by decide +kernel
theorem dX6_lay_74 : decode cX6_lay 74 = .ok (.getfield 41, 3) := by decide +kernel
theorem dX6_lay_77 : decode cX6_lay 77 = .ok (.invokevirtual 86, 3) := by decide +kernel
theorem dX6_lay_80 : decode cX6_lay 80 = .ok (.pop, 1) := by decide +kernel
theorem dX6_lay_81 : decode cX6_lay 81 = .ok (.aload_n 0, 1) := by decide +kernel
theorem dX6_lay_82 : decode cX6_lay 82 = .ok (.getfield 45, 3) := by decide +kernel
theorem dX6_lay_85 : decode cX6_lay 85 = .ok (.invokevirtual 86, 3) := by decide +kernel
theorem dX6_lay_88 : decode cX6_lay 88 = .ok (.pop, 1) := by decide +kernel
theorem dX6_lay_89 : decode cX6_lay 89 = .ok (.aload_n 0, 1) := by decide +kernel
theorem dX6_lay_90 : decode cX6_lay 90 = .ok (.getfield 19, 3) := by decide +kernel
theorem dX6_lay_93 : decode cX6_lay 93 = .ok (.invokevirtual 74, 3) := by decide +kernel
theorem dX6_lay_96 : decode cX6_lay 96 = .ok (.ireturn, 1) := by decide +kernel
theorem dX6_road_0 : decode cX6_road 0 = .ok (.aload_n 0, 1) := by decide +kernel
theorem dX6_road_1 : decode cX6_road 1 = .ok (.getfield 19, 3) := by decide +kernel
theorem dX6_road_4 : decode cX6_road 4 = .ok (.iload_n 1, 1) := by decide +kernel
theorem dX6_road_5 : decode cX6_road 5 = .ok (.iload_n 2, 1) := by decide +kernel
theorem dX6_road_6 : decode cX6_road 6 = .ok (.invokevirtual 87, 3) := by decide +kernel
theorem dX6_road_9 : decode cX6_road 9 = .ok (.ifCond .ne 5, 3) := by decide +kernel
theorem dX6_road_12 : decode cX6_road 12 = .ok (.iconst (-1), 1) := by decide +kernel
theorem dX6_road_13 : decode cX6_road 13 = .ok (.ireturn, 1) := by decide +kernel
theorem dX6_road_14 : decode cX6_road 14 = .ok (.aload_n 0, 1) := by decide +kernel
theorem dX6_road_15 : decode cX6_road 15 = .ok (.getfield 19, 3) := by decide +kernel
theorem dX6_road_18 : decode cX6_road 18 = .ok (.invokevirtual 91, 3) := by decide +kernel
theorem dX6_road_21 : decode cX6_road 21 = .ok (.iload_n 1, 1) := by decide +kernel
theorem dX6_road_22 : decode cX6_road 22 = .ok (.iload_n 2, 1) := by decide +kernel
theorem dX6_road_23 : decode cX6_road 23 = .ok (.invokevirtual 95, 3) := by decide +kernel
theorem dX6_road_26 : decode cX6_road 26 = .ok (.istore_n 3, 1) := by decide +kernel
theorem dX6_road_27 : decode cX6_road 27 = .ok (.iload_n 3, 1) := by decide +kernel
theorem dX6_road_28 : decode cX6_road 28 = .ok (.ifCond .le 7, 3) := by decide +kernel
theorem dX6_road_31 : decode cX6_road 31 = .ok (.iload_n 3, 1) := by decide +kernel
theorem dX6_road_32 : decode cX6_road 32 = .ok (.goto 5, 3) := by decide +kernel
theorem dX6_road_35 : decode cX6_road 35 = .ok (.bipush (-4), 2) := by decide +kernel
theorem dX6_road_37 : decode cX6_road 37 = .ok (.ireturn, 1) := by decide +kernel
theorem dX6_post_0 : decode cX6_post 0 = .ok (.aload_n 0, 1) := by decide +kernel
theorem dX6_post_1 : decode cX6_post 1 = .ok (.getfield 19, 3) := by decide +kernel
theorem dX6_post_4 : decode cX6_post 4 = .ok (.iload_n 1, 1) := by decide +kernel
theorem dX6_post_5 : decode cX6_post 5 = .ok (.invokevirtual 101, 3) := by decide +kernel
theorem dX6_post_8 : decode cX6_post 8 = .ok (.ifCond .ne 5, 3) := by decide +kernel
theorem dX6_post_11 : decode cX6_post 11 = .ok (.iconst (-1), 1) := by decide +kernel
theorem dX6_post_12 : decode cX6_post 12 = .ok (.ireturn, 1) := by decide +kernel
theorem dX6_post_13 : decode cX6_post 13 = .ok (.iload_n 2, 1) := by decide +kernel
theorem dX6_post_14 : decode cX6_post 14 = .ok (.tableswitch 53 0 2 #[26, 35, 44], 26) := by decide +kernel
theorem dX6_post_40 : decode cX6_post 40 = .ok (.aload_n 0, 1) := by decide +kernel
theorem dX6_post_41 : decode cX6_post 41 = .ok (.getfield 19, 3) := by decide +kernel
theorem dX6_post_44 : decode cX6_post 44 = .ok (.iload_n 1, 1) := by decide +kernel
theorem dX6_post_45 : decode cX6_post 45 = .ok (.invokevirtual 105, 3) := by decide +kernel
theorem dX6_post_48 : decode cX6_post 48 = .ok (.ireturn, 1) := by decide +kernel
theorem dX6_post_49 : decode cX6_post 49 = .ok (.aload_n 0, 1) := by decide +kernel
theorem dX6_post_50 : decode cX6_post 50 = .ok (.getfield 19, 3) := by decide +kernel
theorem dX6_post_53 : decode cX6_post 53 = .ok (.iload_n 1, 1) := by decide +kernel
theorem dX6_post_54 : decode cX6_post 54 = .ok (.invokevirtual 108, 3) := by decide +kernel
theorem dX6_post_57 : decode cX6_post 57 = .ok (.ireturn, 1) := by decide +kernel
theorem dX6_post_58 : decode cX6_post 58 = .ok (.aload_n 0, 1) := by decide +kernel
theorem dX6_post_59 : decode cX6_post 59 = .ok (.getfield 19, 3) := by decide +kernel
theorem dX6_post_62 : decode cX6_post 62 = .ok (.iload_n 1, 1) := by decide +kernel
theorem dX6_post_63 : decode cX6_post 63 = .ok (.invokevirtual 111, 3) := by decide +kernel
theorem dX6_post_66 : decode cX6_post 66 = .ok (.ireturn, 1) := by decide +kernel
theorem dX6_post_67 : decode cX6_post 67 = .ok (.iconst (-1), 1) := by decide +kernel
theorem dX6_post_68 : decode cX6_post 68 = .ok (.ireturn, 1) := by decide +kernel
theorem dX6_arm_0 : decode cX6_arm 0 = .ok (.aload_n 0, 1) := by decide +kernel
theorem dX6_arm_1 : decode cX6_arm 1 = .ok (.getfield 19, 3) := by decide +kernel
theorem dX6_arm_4 : decode cX6_arm 4 = .ok (.iload_n 1, 1) := by decide +kernel
theorem dX6_arm_5 : decode cX6_arm 5 = .ok (.invokevirtual 101, 3) := by decide +kernel
theorem dX6_arm_8 : decode cX6_arm 8 = .ok (.ifCond .eq 14, 3) := by decide +kernel
theorem dX6_arm_11 : decode cX6_arm 11 = .ok (.aload_n 0, 1) := by decide +kernel
theorem dX6_arm_12 : decode cX6_arm 12 = .ok (.getfield 19, 3) := by decide +kernel
theorem dX6_arm_15 : decode cX6_arm 15 = .ok (.iload_n 2, 1) := by decide +kernel
theorem dX6_arm_16 : decode cX6_arm 16 = .ok (.invokevirtual 114, 3) := by decide +kernel
theorem dX6_arm_19 : decode cX6_arm 19 = .ok (.ifCond .ne 5, 3) := by decide +kernel
theorem dX6_arm_22 : decode cX6_arm 22 = .ok (.iconst (-1), 1) := by decide +kernel
theorem dX6_arm_23 : decode cX6_arm 23 = .ok (.ireturn, 1) := by decide +kernel
theorem dX6_arm_24 : decode cX6_arm 24 = .ok (.iload_n 3, 1) := by decide +kernel
theorem dX6_arm_25 : decode cX6_arm 25 = .ok (.tableswitch 57 0 2 #[27, 37, 47], 27) := by decide +kernel
theorem dX6_arm_52 : decode cX6_arm 52 = .ok (.aload_n 0, 1) := by decide +kernel
theorem dX6_arm_53 : decode cX6_arm 53 = .ok (.getfield 19, 3) := by decide +kernel
theorem dX6_arm_56 : decode cX6_arm 56 = .ok (.iload_n 1, 1) := by decide +kernel
theorem dX6_arm_57 : decode cX6_arm 57 = .ok (.iload_n 2, 1) := by decide +kernel
theorem dX6_arm_58 : decode cX6_arm 58 = .ok (.invokevirtual 117, 3) := by decide +kernel
theorem dX6_arm_61 : decode cX6_arm 61 = .ok (.ireturn, 1) := by decide +kernel
theorem dX6_arm_62 : decode cX6_arm 62 = .ok (.aload_n 0, 1) := by decide +kernel
theorem dX6_arm_63 : decode cX6_arm 63 = .ok (.getfield 19, 3) := by decide +kernel
theorem dX6_arm_66 : decode cX6_arm 66 = .ok (.iload_n 1, 1) := by decide +kernel
theorem dX6_arm_67 : decode cX6_arm 67 = .ok (.iload_n 2, 1) := by decide +kernel
theorem dX6_arm_68 : decode cX6_arm 68 = .ok (.invokevirtual 120, 3) := by decide +kernel
theorem dX6_arm_71 : decode cX6_arm 71 = .ok (.ireturn, 1) := by decide +kernel
theorem dX6_arm_72 : decode cX6_arm 72 = .ok (.aload_n 0, 1) := by decide +kernel
theorem dX6_arm_73 : decode cX6_arm 73 = .ok (.getfield 19, 3) := by decide +kernel
theorem dX6_arm_76 : decode cX6_arm 76 = .ok (.iload_n 1, 1) := by decide +kernel
theorem dX6_arm_77 : decode cX6_arm 77 = .ok (.iload_n 2, 1) := by decide +kernel
theorem dX6_arm_78 : decode cX6_arm 78 = .ok (.invokevirtual 123, 3) := by decide +kernel
theorem dX6_arm_81 : decode cX6_arm 81 = .ok (.ireturn, 1) := by decide +kernel
theorem dX6_arm_82 : decode cX6_arm 82 = .ok (.iconst (-1), 1) := by decide +kernel
theorem dX6_arm_83 : decode cX6_arm 83 = .ok (.ireturn, 1) := by decide +kernel
theorem dX6_walker_0 : decode cX6_walker 0 = .ok (.aload_n 0, 1) := by decide +kernel
theorem dX6_walker_1 : decode cX6_walker 1 = .ok (.getfield 19, 3) := by decide +kernel
theorem dX6_walker_4 : decode cX6_walker 4 = .ok (.iload_n 1, 1) := by decide +kernel
theorem dX6_walker_5 : decode cX6_walker 5 = .ok (.invokevirtual 126, 3) := by decide +kernel
theorem dX6_walker_8 : decode cX6_walker 8 = .ok (.ifCond .ne 5, 3) := by decide +kernel
theorem dX6_walker_11 : decode cX6_walker 11 = .ok (.iconst (-1), 1) := by decide +kernel
theorem dX6_walker_12 : decode cX6_walker 12 = .ok (.ireturn, 1) := by decide +kernel
theorem dX6_walker_13 : decode cX6_walker 13 = .ok (.iload_n 2, 1) := by decide +kernel
theorem dX6_walker_14 : decode cX6_walker 14 = .ok (.tableswitch 61 0 2 #[26, 35, 44], 26) := by decide +kernel
theorem dX6_walker_40 : decode cX6_walker 40 = .ok (.aload_n 0, 1) := by decide +kernel
theorem dX6_walker_41 : decode cX6_walker 41 = .ok (.getfield 19, 3) := by decide +kernel
theorem dX6_walker_44 : decode cX6_walker 44 = .ok (.iload_n 1, 1) := by decide +kernel
theorem dX6_walker_45 : decode cX6_walker 45 = .ok (.invokevirtual 129, 3) := by decide +kernel
theorem dX6_walker_48 : decode cX6_walker 48 = .ok (.ireturn, 1) := by decide +kernel
theorem dX6_walker_49 : decode cX6_walker 49 = .ok (.aload_n 0, 1) := by decide +kernel
theorem dX6_walker_50 : decode cX6_walker 50 = .ok (.getfield 19, 3) := by decide +kernel
theorem dX6_walker_53 : decode cX6_walker 53 = .ok (.iload_n 1, 1) := by decide +kernel
theorem dX6_walker_54 : decode cX6_walker 54 = .ok (.invokevirtual 132, 3) := by decide +kernel
theorem dX6_walker_57 : decode cX6_walker 57 = .ok (.ireturn, 1) := by decide +kernel
theorem dX6_walker_58 : decode cX6_walker 58 = .ok (.aload_n 0, 1) := by decide +kernel
theorem dX6_walker_59 : decode cX6_walker 59 = .ok (.getfield 19, 3) := by decide +kernel
theorem dX6_walker_62 : decode cX6_walker 62 = .ok (.iload_n 1, 1) := by decide +kernel
theorem dX6_walker_63 : decode cX6_walker 63 = .ok (.invokevirtual 135, 3) := by decide +kernel
theorem dX6_walker_66 : decode cX6_walker 66 = .ok (.ifCond .eq 7, 3) := by decide +kernel
theorem dX6_walker_69 : decode cX6_walker 69 = .ok (.iconst 1, 1) := by decide +kernel
theorem dX6_walker_70 : decode cX6_walker 70 = .ok (.goto 4, 3) := by decide +kernel
theorem dX6_walker_73 : decode cX6_walker 73 = .ok (.iconst 0, 1) := by decide +kernel
theorem dX6_walker_74 : decode cX6_walker 74 = .ok (.ireturn, 1) := by decide +kernel
theorem dX6_walker_75 : decode cX6_walker 75 = .ok (.iconst (-1), 1) := by decide +kernel
theorem dX6_walker_76 : decode cX6_walker 76 = .ok (.ireturn, 1) := by decide +kernel
theorem dX6_pass_0 : decode cX6_pass 0 = .ok (.iload_n 1, 1) := by decide +kernel
theorem dX6_pass_1 : decode cX6_pass 1 = .ok (.iconst 1, 1) := by decide +kernel
theorem dX6_pass_2 : decode cX6_pass 2 = .ok (.if_icmp .lt 9, 3) := by decide +kernel
theorem dX6_pass_5 : decode cX6_pass 5 = .ok (.iload_n 1, 1) := by decide +kernel
theorem dX6_pass_6 : decode cX6_pass 6 = .ok (.bipush 20, 2) := by decide +kernel
theorem dX6_pass_8 : decode cX6_pass 8 = .ok (.if_icmp .le 5, 3) := by decide +kernel
theorem dX6_pass_11 : decode cX6_pass 11 = .ok (.iconst (-1), 1) := by decide +kernel
theorem dX6_pass_12 : decode cX6_pass 12 = .ok (.ireturn, 1) := by decide +kernel
theorem dX6_pass_13 : decode cX6_pass 13 = .ok (.aload_n 0, 1) := by decide +kernel
theorem dX6_pass_14 : decode cX6_pass 14 = .ok (.getfield 19, 3) := by decide +kernel
theorem dX6_pass_17 : decode cX6_pass 17 = .ok (.invokevirtual 138, 3) := by decide +kernel
theorem dX6_pass_20 : decode cX6_pass 20 = .ok (.iload_n 1, 1) := by decide +kernel
theorem dX6_pass_21 : decode cX6_pass 21 = .ok (.iadd, 1) := by decide +kernel
theorem dX6_pass_22 : decode cX6_pass 22 = .ok (.sipush 999, 3) := by decide +kernel
theorem dX6_pass_25 : decode cX6_pass 25 = .ok (.if_icmp .le 6, 3) := by decide +kernel
theorem dX6_pass_28 : decode cX6_pass 28 = .ok (.bipush (-2), 2) := by decide +kernel
theorem dX6_pass_30 : decode cX6_pass 30 = .ok (.ireturn, 1) := by decide +kernel
theorem dX6_pass_31 : decode cX6_pass 31 = .ok (.aload_n 0, 1) := by decide +kernel
theorem dX6_pass_32 : decode cX6_pass 32 = .ok (.getfield 31, 3) := by decide +kernel
theorem dX6_pass_35 : decode cX6_pass 35 = .ok (.aload_n 0, 1) := by decide +kernel
theorem dX6_pass_36 : decode cX6_pass 36 = .ok (.getfield 19, 3) := by decide +kernel
theorem dX6_pass_39 : decode cX6_pass 39 = .ok (.invokevirtual 141, 3) := by decide +kernel
theorem dX6_pass_42 : decode cX6_pass 42 = .ok (.aload_n 0, 1) := by decide +kernel
theorem dX6_pass_43 : decode cX6_pass 43 = .ok (.getfield 19, 3) := by decide +kernel
theorem dX6_pass_46 : decode cX6_pass 46 = .ok (.iload_n 1, 1) := by decide +kernel
theorem dX6_pass_47 : decode cX6_pass 47 = .ok (.invokevirtual 144, 3) := by decide +kernel
theorem dX6_pass_50 : decode cX6_pass 50 = .ok (.aload_n 0, 1) := by decide +kernel
theorem dX6_pass_51 : decode cX6_pass 51 = .ok (.getfield 19, 3) := by decide +kernel
theorem dX6_pass_54 : decode cX6_pass 54 = .ok (.invokevirtual 138, 3) := by decide +kernel
theorem dX6_pass_57 : decode cX6_pass 57 = .ok (.ireturn, 1) := by decide +kernel
theorem dX6_year_0 : decode cX6_year 0 = .ok (.aload_n 0, 1) := by decide +kernel
theorem dX6_year_1 : decode cX6_year 1 = .ok (.getfield 31, 3) := by decide +kernel
theorem dX6_year_4 : decode cX6_year 4 = .ok (.aload_n 0, 1) := by decide +kernel
theorem dX6_year_5 : decode cX6_year 5 = .ok (.getfield 19, 3) := by decide +kernel
theorem dX6_year_8 : decode cX6_year 8 = .ok (.invokevirtual 141, 3) := by decide +kernel
theorem dX6_year_11 : decode cX6_year 11 = .ok (.aload_n 0, 1) := by decide +kernel
theorem dX6_year_12 : decode cX6_year 12 = .ok (.getfield 19, 3) := by decide +kernel
theorem dX6_year_15 : decode cX6_year 15 = .ok (.invokevirtual 147, 3) := by decide +kernel
theorem dX6_year_18 : decode cX6_year 18 = .ok (.ireturn, 1) := by decide +kernel
theorem dX6_lays_0 : decode cX6_lays 0 = .ok (.aload_n 0, 1) := by decide +kernel
theorem dX6_lays_1 : decode cX6_lays 1 = .ok (.getfield 19, 3) := by decide +kernel
theorem dX6_lays_4 : decode cX6_lays 4 = .ok (.iload_n 1, 1) := by decide +kernel
theorem dX6_lays_5 : decode cX6_lays 5 = .ok (.iload_n 2, 1) := by decide +kernel
theorem dX6_lays_6 : decode cX6_lays 6 = .ok (.invokevirtual 87, 3) := by decide +kernel
theorem dX6_lays_9 : decode cX6_lays 9 = .ok (.ifCond .eq 13, 3) := by decide +kernel
theorem dX6_lays_12 : decode cX6_lays 12 = .ok (.iload_n 3, 1) := by decide +kernel
theorem dX6_lays_13 : decode cX6_lays 13 = .ok (.ifCond .lt 9, 3) := by decide +kernel
theorem dX6_lays_16 : decode cX6_lays 16 = .ok (.iload_n 3, 1) := by decide +kernel
theorem dX6_lays_17 : decode cX6_lays 17 = .ok (.bipush 9, 2) := by decide +kernel
theorem dX6_lays_19 : decode cX6_lays 19 = .ok (.if_icmp .le 5, 3) := by decide +kernel
theorem dX6_lays_22 : decode cX6_lays 22 = .ok (.iconst (-1), 1) := by decide +kernel
theorem dX6_lays_23 : decode cX6_lays 23 = .ok (.ireturn, 1) := by decide +kernel
theorem dX6_lays_24 : decode cX6_lays 24 = .ok (.aload_n 0, 1) := by decide +kernel
theorem dX6_lays_25 : decode cX6_lays 25 = .ok (.getfield 31, 3) := by decide +kernel
theorem dX6_lays_28 : decode cX6_lays 28 = .ok (.aload_n 0, 1) := by decide +kernel
theorem dX6_lays_29 : decode cX6_lays 29 = .ok (.getfield 19, 3) := by decide +kernel
theorem dX6_lays_32 : decode cX6_lays 32 = .ok (.invokevirtual 141, 3) := by decide +kernel
theorem dX6_lays_35 : decode cX6_lays 35 = .ok (.aload_n 0, 1) := by decide +kernel
theorem dX6_lays_36 : decode cX6_lays 36 = .ok (.getfield 19, 3) := by decide +kernel
theorem dX6_lays_39 : decode cX6_lays 39 = .ok (.invokevirtual 91, 3) := by decide +kernel
theorem dX6_lays_42 : decode cX6_lays 42 = .ok (.iload_n 1, 1) := by decide +kernel
theorem dX6_lays_43 : decode cX6_lays 43 = .ok (.iload_n 2, 1) := by decide +kernel
theorem dX6_lays_44 : decode cX6_lays 44 = .ok (.invokevirtual 95, 3) := by decide +kernel
theorem dX6_lays_47 : decode cX6_lays 47 = .ok (.istore 4, 2) := by decide +kernel
theorem dX6_lays_49 : decode cX6_lays 49 = .ok (.aload_n 0, 1) := by decide +kernel
theorem dX6_lays_50 : decode cX6_lays 50 = .ok (.getfield 19, 3) := by decide +kernel
theorem dX6_lays_53 : decode cX6_lays 53 = .ok (.invokevirtual 91, 3) := by decide +kernel
theorem dX6_lays_56 : decode cX6_lays 56 = .ok (.iload_n 1, 1) := by decide +kernel
theorem dX6_lays_57 : decode cX6_lays 57 = .ok (.iload_n 2, 1) := by decide +kernel
theorem dX6_lays_58 : decode cX6_lays 58 = .ok (.iload_n 3, 1) := by decide +kernel
theorem dX6_lays_59 : decode cX6_lays 59 = .ok (.invokevirtual 150, 3) := by decide +kernel
theorem dX6_lays_62 : decode cX6_lays 62 = .ok (.iload 4, 2) := by decide +kernel
theorem dX6_lays_64 : decode cX6_lays 64 = .ok (.ireturn, 1) := by decide +kernel
theorem dX6_paint_0 : decode cX6_paint 0 = .ok (.aload_n 0, 1) := by decide +kernel
theorem dX6_paint_1 : decode cX6_paint 1 = .ok (.getfield 19, 3) := by decide +kernel
theorem dX6_paint_4 : decode cX6_paint 4 = .ok (.iload_n 1, 1) := by decide +kernel
theorem dX6_paint_5 : decode cX6_paint 5 = .ok (.invokevirtual 101, 3) := by decide +kernel
theorem dX6_paint_8 : decode cX6_paint 8 = .ok (.ifCond .ne 5, 3) := by decide +kernel
theorem dX6_paint_11 : decode cX6_paint 11 = .ok (.iconst (-1), 1) := by decide +kernel
theorem dX6_paint_12 : decode cX6_paint 12 = .ok (.ireturn, 1) := by decide +kernel
theorem dX6_paint_13 : decode cX6_paint 13 = .ok (.aload_n 0, 1) := by decide +kernel
theorem dX6_paint_14 : decode cX6_paint 14 = .ok (.getfield 19, 3) := by decide +kernel
theorem dX6_paint_17 : decode cX6_paint 17 = .ok (.iload_n 1, 1) := by decide +kernel
theorem dX6_paint_18 : decode cX6_paint 18 = .ok (.invokevirtual 154, 3) := by decide +kernel
theorem dX6_paint_21 : decode cX6_paint 21 = .ok (.ifCond .eq 6, 3) := by decide +kernel
theorem dX6_paint_24 : decode cX6_paint 24 = .ok (.bipush (-2), 2) := by decide +kernel
theorem dX6_paint_26 : decode cX6_paint 26 = .ok (.ireturn, 1) := by decide +kernel
theorem dX6_paint_27 : decode cX6_paint 27 = .ok (.aload_n 0, 1) := by decide +kernel
theorem dX6_paint_28 : decode cX6_paint 28 = .ok (.getfield 31, 3) := by decide +kernel
theorem dX6_paint_31 : decode cX6_paint 31 = .ok (.aload_n 0, 1) := by decide +kernel
theorem dX6_paint_32 : decode cX6_paint 32 = .ok (.getfield 19, 3) := by decide +kernel
theorem dX6_paint_35 : decode cX6_paint 35 = .ok (.invokevirtual 141, 3) := by decide +kernel
theorem dX6_paint_38 : decode cX6_paint 38 = .ok (.aload_n 0, 1) := by decide +kernel
theorem dX6_paint_39 : decode cX6_paint 39 = .ok (.getfield 19, 3) := by decide +kernel
theorem dX6_paint_42 : decode cX6_paint 42 = .ok (.iload_n 1, 1) := by decide +kernel
theorem dX6_paint_43 : decode cX6_paint 43 = .ok (.invokevirtual 157, 3) := by decide +kernel
theorem dX6_paint_46 : decode cX6_paint 46 = .ok (.ireturn, 1) := by decide +kernel
theorem dX6_move_0 : decode cX6_move 0 = .ok (.aload_n 0, 1) := by decide +kernel
theorem dX6_move_1 : decode cX6_move 1 = .ok (.getfield 19, 3) := by decide +kernel
theorem dX6_move_4 : decode cX6_move 4 = .ok (.iload_n 1, 1) := by decide +kernel
theorem dX6_move_5 : decode cX6_move 5 = .ok (.invokevirtual 101, 3) := by decide +kernel
theorem dX6_move_8 : decode cX6_move 8 = .ok (.ifCond .eq 14, 3) := by decide +kernel
theorem dX6_move_11 : decode cX6_move 11 = .ok (.aload_n 0, 1) := by decide +kernel
theorem dX6_move_12 : decode cX6_move 12 = .ok (.getfield 19, 3) := by decide +kernel
theorem dX6_move_15 : decode cX6_move 15 = .ok (.iload_n 2, 1) := by decide +kernel
theorem dX6_move_16 : decode cX6_move 16 = .ok (.invokevirtual 114, 3) := by decide +kernel
theorem dX6_move_19 : decode cX6_move 19 = .ok (.ifCond .ne 5, 3) := by decide +kernel
theorem dX6_move_22 : decode cX6_move 22 = .ok (.iconst (-1), 1) := by decide +kernel
theorem dX6_move_23 : decode cX6_move 23 = .ok (.ireturn, 1) := by decide +kernel
theorem dX6_move_24 : decode cX6_move 24 = .ok (.aload_n 0, 1) := by decide +kernel
theorem dX6_move_25 : decode cX6_move 25 = .ok (.getfield 19, 3) := by decide +kernel
theorem dX6_move_28 : decode cX6_move 28 = .ok (.iload_n 1, 1) := by decide +kernel
theorem dX6_move_29 : decode cX6_move 29 = .ok (.invokevirtual 108, 3) := by decide +kernel
theorem dX6_move_32 : decode cX6_move 32 = .ok (.istore_n 3, 1) := by decide +kernel
theorem dX6_move_33 : decode cX6_move 33 = .ok (.aload_n 0, 1) := by decide +kernel
theorem dX6_move_34 : decode cX6_move 34 = .ok (.getfield 19, 3) := by decide +kernel
theorem dX6_move_37 : decode cX6_move 37 = .ok (.iload_n 1, 1) := by decide +kernel
theorem dX6_move_38 : decode cX6_move 38 = .ok (.invokevirtual 154, 3) := by decide +kernel
theorem dX6_move_41 : decode cX6_move 41 = .ok (.ifCond .ne 8, 3) := by decide +kernel
theorem dX6_move_44 : decode cX6_move 44 = .ok (.iload_n 3, 1) := by decide +kernel
theorem dX6_move_45 : decode cX6_move 45 = .ok (.iload_n 2, 1) := by decide +kernel
theorem dX6_move_46 : decode cX6_move 46 = .ok (.if_icmp .ne 6, 3) := by decide +kernel
theorem dX6_move_49 : decode cX6_move 49 = .ok (.bipush (-2), 2) := by decide +kernel
theorem dX6_move_51 : decode cX6_move 51 = .ok (.ireturn, 1) := by decide +kernel
theorem dX6_move_52 : decode cX6_move 52 = .ok (.aload_n 0, 1) := by decide +kernel
theorem dX6_move_53 : decode cX6_move 53 = .ok (.getfield 31, 3) := by decide +kernel
theorem dX6_move_56 : decode cX6_move 56 = .ok (.aload_n 0, 1) := by decide +kernel
theorem dX6_move_57 : decode cX6_move 57 = .ok (.getfield 19, 3) := by decide +kernel
theorem dX6_move_60 : decode cX6_move 60 = .ok (.invokevirtual 141, 3) := by decide +kernel
theorem dX6_move_63 : decode cX6_move 63 = .ok (.aload_n 0, 1) := by decide +kernel
theorem dX6_move_64 : decode cX6_move 64 = .ok (.getfield 19, 3) := by decide +kernel
theorem dX6_move_67 : decode cX6_move 67 = .ok (.iload_n 1, 1) := by decide +kernel
theorem dX6_move_68 : decode cX6_move 68 = .ok (.iload_n 2, 1) := by decide +kernel
theorem dX6_move_69 : decode cX6_move 69 = .ok (.invokevirtual 160, 3) := by decide +kernel
theorem dX6_move_72 : decode cX6_move 72 = .ok (.iload_n 3, 1) := by decide +kernel
theorem dX6_move_73 : decode cX6_move 73 = .ok (.ireturn, 1) := by decide +kernel
theorem dX6_retire_0 : decode cX6_retire 0 = .ok (.aload_n 0, 1) := by decide +kernel
theorem dX6_retire_1 : decode cX6_retire 1 = .ok (.getfield 19, 3) := by decide +kernel
theorem dX6_retire_4 : decode cX6_retire 4 = .ok (.iload_n 1, 1) := by decide +kernel
theorem dX6_retire_5 : decode cX6_retire 5 = .ok (.invokevirtual 101, 3) := by decide +kernel
theorem dX6_retire_8 : decode cX6_retire 8 = .ok (.ifCond .ne 5, 3) := by decide +kernel
theorem dX6_retire_11 : decode cX6_retire 11 = .ok (.iconst (-1), 1) := by decide +kernel
theorem dX6_retire_12 : decode cX6_retire 12 = .ok (.ireturn, 1) := by decide +kernel
theorem dX6_retire_13 : decode cX6_retire 13 = .ok (.aload_n 0, 1) := by decide +kernel
theorem dX6_retire_14 : decode cX6_retire 14 = .ok (.getfield 19, 3) := by decide +kernel
theorem dX6_retire_17 : decode cX6_retire 17 = .ok (.iload_n 1, 1) := by decide +kernel
theorem dX6_retire_18 : decode cX6_retire 18 = .ok (.invokevirtual 154, 3) := by decide +kernel
theorem dX6_retire_21 : decode cX6_retire 21 = .ok (.ifCond .eq 6, 3) := by decide +kernel
theorem dX6_retire_24 : decode cX6_retire 24 = .ok (.bipush (-2), 2) := by decide +kernel
theorem dX6_retire_26 : decode cX6_retire 26 = .ok (.ireturn, 1) := by decide +kernel
theorem dX6_retire_27 : decode cX6_retire 27 = .ok (.aload_n 0, 1) := by decide +kernel
theorem dX6_retire_28 : decode cX6_retire 28 = .ok (.getfield 19, 3) := by decide +kernel
theorem dX6_retire_31 : decode cX6_retire 31 = .ok (.iload_n 1, 1) := by decide +kernel
theorem dX6_retire_32 : decode cX6_retire 32 = .ok (.invokevirtual 108, 3) := by decide +kernel
theorem dX6_retire_35 : decode cX6_retire 35 = .ok (.istore_n 2, 1) := by decide +kernel
theorem dX6_retire_36 : decode cX6_retire 36 = .ok (.aload_n 0, 1) := by decide +kernel
theorem dX6_retire_37 : decode cX6_retire 37 = .ok (.getfield 31, 3) := by decide +kernel
theorem dX6_retire_40 : decode cX6_retire 40 = .ok (.aload_n 0, 1) := by decide +kernel
theorem dX6_retire_41 : decode cX6_retire 41 = .ok (.getfield 19, 3) := by decide +kernel
theorem dX6_retire_44 : decode cX6_retire 44 = .ok (.invokevirtual 141, 3) := by decide +kernel
theorem dX6_retire_47 : decode cX6_retire 47 = .ok (.aload_n 0, 1) := by decide +kernel
theorem dX6_retire_48 : decode cX6_retire 48 = .ok (.getfield 19, 3) := by decide +kernel
theorem dX6_retire_51 : decode cX6_retire 51 = .ok (.iload_n 1, 1) := by decide +kernel
theorem dX6_retire_52 : decode cX6_retire 52 = .ok (.invokevirtual 164, 3) := by decide +kernel
theorem dX6_retire_55 : decode cX6_retire 55 = .ok (.iload_n 2, 1) := by decide +kernel
theorem dX6_retire_56 : decode cX6_retire 56 = .ok (.ireturn, 1) := by decide +kernel
theorem dX6_undo_0 : decode cX6_undo 0 = .ok (.aload_n 0, 1) := by decide +kernel
theorem dX6_undo_1 : decode cX6_undo 1 = .ok (.getfield 31, 3) := by decide +kernel
theorem dX6_undo_4 : decode cX6_undo 4 = .ok (.aload_n 0, 1) := by decide +kernel
theorem dX6_undo_5 : decode cX6_undo 5 = .ok (.getfield 19, 3) := by decide +kernel
theorem dX6_undo_8 : decode cX6_undo 8 = .ok (.invokevirtual 167, 3) := by decide +kernel
theorem dX6_undo_11 : decode cX6_undo 11 = .ok (.ifCond .eq 13, 3) := by decide +kernel
theorem dX6_undo_14 : decode cX6_undo 14 = .ok (.aload_n 0, 1) := by decide +kernel
theorem dX6_undo_15 : decode cX6_undo 15 = .ok (.getfield 31, 3) := by decide +kernel
theorem dX6_undo_18 : decode cX6_undo 18 = .ok (.invokevirtual 171, 3) := by decide +kernel
theorem dX6_undo_21 : decode cX6_undo 21 = .ok (.goto 5, 3) := by decide +kernel
theorem dX6_undo_24 : decode cX6_undo 24 = .ok (.bipush (-2), 2) := by decide +kernel
theorem dX6_undo_26 : decode cX6_undo 26 = .ok (.ireturn, 1) := by decide +kernel
theorem dX6_comes_0 : decode cX6_comes 0 = .ok (.aload_n 0, 1) := by decide +kernel
theorem dX6_comes_1 : decode cX6_comes 1 = .ok (.getfield 19, 3) := by decide +kernel
theorem dX6_comes_4 : decode cX6_comes 4 = .ok (.iload_n 1, 1) := by decide +kernel
theorem dX6_comes_5 : decode cX6_comes 5 = .ok (.invokevirtual 126, 3) := by decide +kernel
theorem dX6_comes_8 : decode cX6_comes 8 = .ok (.ifCond .ne 5, 3) := by decide +kernel
theorem dX6_comes_11 : decode cX6_comes 11 = .ok (.iconst (-1), 1) := by decide +kernel
theorem dX6_comes_12 : decode cX6_comes 12 = .ok (.ireturn, 1) := by decide +kernel
theorem dX6_comes_13 : decode cX6_comes 13 = .ok (.aload_n 0, 1) := by decide +kernel
theorem dX6_comes_14 : decode cX6_comes 14 = .ok (.getfield 23, 3) := by decide +kernel
theorem dX6_comes_17 : decode cX6_comes 17 = .ok (.aload_n 0, 1) := by decide +kernel
theorem dX6_comes_18 : decode cX6_comes 18 = .ok (.getfield 19, 3) := by decide +kernel
theorem dX6_comes_21 : decode cX6_comes 21 = .ok (.invokevirtual 80, 3) := by decide +kernel
theorem dX6_comes_24 : decode cX6_comes 24 = .ok (.iconst 0, 1) := by decide +kernel
theorem dX6_comes_25 : decode cX6_comes 25 = .ok (.istore_n 2, 1) := by decide +kernel
theorem dX6_comes_26 : decode cX6_comes 26 = .ok (.iload_n 2, 1) := by decide +kernel
theorem dX6_comes_27 : decode cX6_comes 27 = .ok (.bipush 40, 2) := by decide +kernel
theorem dX6_comes_29 : decode cX6_comes 29 = .ok (.if_icmp .gt 30, 3) := by decide +kernel
theorem dX6_comes_32 : decode cX6_comes 32 = .ok (.aload_n 0, 1) := by decide +kernel
theorem dX6_comes_33 : decode cX6_comes 33 = .ok (.getfield 23, 3) := by decide +kernel
theorem dX6_comes_36 : decode cX6_comes 36 = .ok (.iload_n 1, 1) := by decide +kernel
theorem dX6_comes_37 : decode cX6_comes 37 = .ok (.invokevirtual 135, 3) := by decide +kernel
theorem dX6_comes_40 : decode cX6_comes 40 = .ok (.ifCond .eq 5, 3) := by decide +kernel
theorem dX6_comes_43 : decode cX6_comes 43 = .ok (.iload_n 2, 1) := by decide +kernel
theorem dX6_comes_44 : decode cX6_comes 44 = .ok (.ireturn, 1) := by decide +kernel
theorem dX6_comes_45 : decode cX6_comes 45 = .ok (.aload_n 0, 1) := by decide +kernel
theorem dX6_comes_46 : decode cX6_comes 46 = .ok (.getfield 23, 3) := by decide +kernel
theorem dX6_comes_49 : decode cX6_comes 49 = .ok (.iconst 1, 1) := by decide +kernel
theorem dX6_comes_50 : decode cX6_comes 50 = .ok (.invokevirtual 144, 3) := by decide +kernel
theorem dX6_comes_53 : decode cX6_comes 53 = .ok (.iinc 2 1, 3) := by decide +kernel
theorem dX6_comes_56 : decode cX6_comes 56 = .ok (.goto (-30), 3) := by decide +kernel
theorem dX6_comes_59 : decode cX6_comes 59 = .ok (.bipush (-4), 2) := by decide +kernel
theorem dX6_comes_61 : decode cX6_comes 61 = .ok (.ireturn, 1) := by decide +kernel
theorem dX6_trail_0 : decode cX6_trail 0 = .ok (.aload_n 0, 1) := by decide +kernel
theorem dX6_trail_1 : decode cX6_trail 1 = .ok (.getfield 19, 3) := by decide +kernel
theorem dX6_trail_4 : decode cX6_trail 4 = .ok (.iload_n 1, 1) := by decide +kernel
theorem dX6_trail_5 : decode cX6_trail 5 = .ok (.invokevirtual 126, 3) := by decide +kernel
theorem dX6_trail_8 : decode cX6_trail 8 = .ok (.ifCond .eq 13, 3) := by decide +kernel
theorem dX6_trail_11 : decode cX6_trail 11 = .ok (.iload_n 2, 1) := by decide +kernel
theorem dX6_trail_12 : decode cX6_trail 12 = .ok (.ifCond .lt 9, 3) := by decide +kernel
theorem dX6_trail_15 : decode cX6_trail 15 = .ok (.iload_n 2, 1) := by decide +kernel
theorem dX6_trail_16 : decode cX6_trail 16 = .ok (.bipush 40, 2) := by decide +kernel
theorem dX6_trail_18 : decode cX6_trail 18 = .ok (.if_icmp .le 5, 3) := by decide +kernel
theorem dX6_trail_21 : decode cX6_trail 21 = .ok (.iconst (-1), 1) := by decide +kernel
theorem dX6_trail_22 : decode cX6_trail 22 = .ok (.ireturn, 1) := by decide +kernel
theorem dX6_trail_23 : decode cX6_trail 23 = .ok (.aload_n 0, 1) := by decide +kernel
theorem dX6_trail_24 : decode cX6_trail 24 = .ok (.getfield 23, 3) := by decide +kernel
theorem dX6_trail_27 : decode cX6_trail 27 = .ok (.aload_n 0, 1) := by decide +kernel
theorem dX6_trail_28 : decode cX6_trail 28 = .ok (.getfield 19, 3) := by decide +kernel
theorem dX6_trail_31 : decode cX6_trail 31 = .ok (.invokevirtual 80, 3) := by decide +kernel
theorem dX6_trail_34 : decode cX6_trail 34 = .ok (.aload_n 0, 1) := by decide +kernel
theorem dX6_trail_35 : decode cX6_trail 35 = .ok (.getfield 23, 3) := by decide +kernel
theorem dX6_trail_38 : decode cX6_trail 38 = .ok (.iload_n 2, 1) := by decide +kernel
theorem dX6_trail_39 : decode cX6_trail 39 = .ok (.invokevirtual 144, 3) := by decide +kernel
theorem dX6_trail_42 : decode cX6_trail 42 = .ok (.aload_n 0, 1) := by decide +kernel
theorem dX6_trail_43 : decode cX6_trail 43 = .ok (.getfield 23, 3) := by decide +kernel
theorem dX6_trail_46 : decode cX6_trail 46 = .ok (.iload_n 1, 1) := by decide +kernel
theorem dX6_trail_47 : decode cX6_trail 47 = .ok (.invokevirtual 129, 3) := by decide +kernel
theorem dX6_trail_50 : decode cX6_trail 50 = .ok (.ireturn, 1) := by decide +kernel
theorem dX6_lost_0 : decode cX6_lost 0 = .ok (.aload_n 0, 1) := by decide +kernel
theorem dX6_lost_1 : decode cX6_lost 1 = .ok (.getfield 23, 3) := by decide +kernel
theorem dX6_lost_4 : decode cX6_lost 4 = .ok (.aload_n 0, 1) := by decide +kernel
theorem dX6_lost_5 : decode cX6_lost 5 = .ok (.getfield 19, 3) := by decide +kernel
theorem dX6_lost_8 : decode cX6_lost 8 = .ok (.invokevirtual 80, 3) := by decide +kernel
theorem dX6_lost_11 : decode cX6_lost 11 = .ok (.aload_n 0, 1) := by decide +kernel
theorem dX6_lost_12 : decode cX6_lost 12 = .ok (.getfield 23, 3) := by decide +kernel
theorem dX6_lost_15 : decode cX6_lost 15 = .ok (.bipush 40, 2) := by decide +kernel
theorem dX6_lost_17 : decode cX6_lost 17 = .ok (.invokevirtual 144, 3) := by decide +kernel
theorem dX6_lost_20 : decode cX6_lost 20 = .ok (.iconst 0, 1) := by decide +kernel
theorem dX6_lost_21 : decode cX6_lost 21 = .ok (.istore_n 1, 1) := by decide +kernel
theorem dX6_lost_22 : decode cX6_lost 22 = .ok (.iconst 0, 1) := by decide +kernel
theorem dX6_lost_23 : decode cX6_lost 23 = .ok (.istore_n 2, 1) := by decide +kernel
theorem dX6_lost_24 : decode cX6_lost 24 = .ok (.iload_n 2, 1) := by decide +kernel
theorem dX6_lost_25 : decode cX6_lost 25 = .ok (.aload_n 0, 1) := by decide +kernel
theorem dX6_lost_26 : decode cX6_lost 26 = .ok (.getfield 23, 3) := by decide +kernel
theorem dX6_lost_29 : decode cX6_lost 29 = .ok (.invokevirtual 77, 3) := by decide +kernel
theorem dX6_lost_32 : decode cX6_lost 32 = .ok (.if_icmp .ge 26, 3) := by decide +kernel
theorem dX6_lost_35 : decode cX6_lost 35 = .ok (.aload_n 0, 1) := by decide +kernel
theorem dX6_lost_36 : decode cX6_lost 36 = .ok (.getfield 23, 3) := by decide +kernel
theorem dX6_lost_39 : decode cX6_lost 39 = .ok (.iload_n 2, 1) := by decide +kernel
theorem dX6_lost_40 : decode cX6_lost 40 = .ok (.invokevirtual 135, 3) := by decide +kernel
theorem dX6_lost_43 : decode cX6_lost 43 = .ok (.ifCond .ne 9, 3) := by decide +kernel
theorem dX6_lost_46 : decode cX6_lost 46 = .ok (.iload_n 1, 1) := by decide +kernel
theorem dX6_lost_47 : decode cX6_lost 47 = .ok (.iconst 1, 1) := by decide +kernel
theorem dX6_lost_48 : decode cX6_lost 48 = .ok (.iload_n 2, 1) := by decide +kernel
theorem dX6_lost_49 : decode cX6_lost 49 = .ok (.ishl, 1) := by decide +kernel
theorem dX6_lost_50 : decode cX6_lost 50 = .ok (.ior, 1) := by decide +kernel
theorem dX6_lost_51 : decode cX6_lost 51 = .ok (.istore_n 1, 1) := by decide +kernel
theorem dX6_lost_52 : decode cX6_lost 52 = .ok (.iinc 2 1, 3) := by decide +kernel
theorem dX6_lost_55 : decode cX6_lost 55 = .ok (.goto (-31), 3) := by decide +kernel
theorem dX6_lost_58 : decode cX6_lost 58 = .ok (.iload_n 1, 1) := by decide +kernel
theorem dX6_lost_59 : decode cX6_lost 59 = .ok (.ireturn, 1) := by decide +kernel
theorem dX6_helps_0 : decode cX6_helps 0 = .ok (.iload_n 1, 1) := by decide +kernel
theorem dX6_helps_1 : decode cX6_helps 1 = .ok (.ifCond .lt 8, 3) := by decide +kernel
theorem dX6_helps_4 : decode cX6_helps 4 = .ok (.iload_n 1, 1) := by decide +kernel
theorem dX6_helps_5 : decode cX6_helps 5 = .ok (.iconst 1, 1) := by decide +kernel
theorem dX6_helps_6 : decode cX6_helps 6 = .ok (.if_icmp .le 5, 3) := by decide +kernel
theorem dX6_helps_9 : decode cX6_helps 9 = .ok (.iconst (-1), 1) := by decide +kernel
theorem dX6_helps_10 : decode cX6_helps 10 = .ok (.ireturn, 1) := by decide +kernel
theorem dX6_helps_11 : decode cX6_helps 11 = .ok (.bipush (-4), 2) := by decide +kernel
theorem dX6_helps_13 : decode cX6_helps 13 = .ok (.istore_n 2, 1) := by decide +kernel
theorem dX6_helps_14 : decode cX6_helps 14 = .ok (.bipush (-4), 2) := by decide +kernel
theorem dX6_helps_16 : decode cX6_helps 16 = .ok (.istore_n 3, 1) := by decide +kernel
theorem dX6_helps_17 : decode cX6_helps 17 = .ok (.iconst 0, 1) := by decide +kernel
theorem dX6_helps_18 : decode cX6_helps 18 = .ok (.istore 4, 2) := by decide +kernel
theorem dX6_helps_20 : decode cX6_helps 20 = .ok (.iload 4, 2) := by decide +kernel
theorem dX6_helps_22 : decode cX6_helps 22 = .ok (.aload_n 0, 1) := by decide +kernel
theorem dX6_helps_23 : decode cX6_helps 23 = .ok (.getfield 19, 3) := by decide +kernel
theorem dX6_helps_26 : decode cX6_helps 26 = .ok (.invokevirtual 174, 3) := by decide +kernel
theorem dX6_helps_29 : decode cX6_helps 29 = .ok (.if_icmp .ge 49, 3) := by decide +kernel
theorem dX6_helps_32 : decode cX6_helps 32 = .ok (.aload_n 0, 1) := by decide +kernel
theorem dX6_helps_33 : decode cX6_helps 33 = .ok (.getfield 19, 3) := by decide +kernel
theorem dX6_helps_36 : decode cX6_helps 36 = .ok (.iload 4, 2) := by decide +kernel
theorem dX6_helps_38 : decode cX6_helps 38 = .ok (.invokevirtual 177, 3) := by decide +kernel
theorem dX6_helps_41 : decode cX6_helps 41 = .ok (.bipush (-4), 2) := by decide +kernel
theorem dX6_helps_43 : decode cX6_helps 43 = .ok (.if_icmp .ne 29, 3) := by decide +kernel
theorem dX6_helps_46 : decode cX6_helps 46 = .ok (.aload_n 0, 1) := by decide +kernel
theorem dX6_helps_47 : decode cX6_helps 47 = .ok (.iload 4, 2) := by decide +kernel
theorem dX6_helps_49 : decode cX6_helps 49 = .ok (.invokevirtual 180, 3) := by decide +kernel
theorem dX6_helps_52 : decode cX6_helps 52 = .ok (.istore 5, 2) := by decide +kernel
theorem dX6_helps_54 : decode cX6_helps 54 = .ok (.iload_n 2, 1) := by decide +kernel
theorem dX6_helps_55 : decode cX6_helps 55 = .ok (.bipush (-4), 2) := by decide +kernel
theorem dX6_helps_57 : decode cX6_helps 57 = .ok (.if_icmp .eq 9, 3) := by decide +kernel
theorem dX6_helps_60 : decode cX6_helps 60 = .ok (.iload 5, 2) := by decide +kernel
theorem dX6_helps_62 : decode cX6_helps 62 = .ok (.iload_n 3, 1) := by decide +kernel
theorem dX6_helps_63 : decode cX6_helps 63 = .ok (.if_icmp .le 9, 3) := by decide +kernel
theorem dX6_helps_66 : decode cX6_helps 66 = .ok (.iload 4, 2) := by decide +kernel
theorem dX6_helps_68 : decode cX6_helps 68 = .ok (.istore_n 2, 1) := by decide +kernel
theorem dX6_helps_69 : decode cX6_helps 69 = .ok (.iload 5, 2) := by decide +kernel
theorem dX6_helps_71 : decode cX6_helps 71 = .ok (.istore_n 3, 1) := by decide +kernel
theorem dX6_helps_72 : decode cX6_helps 72 = .ok (.iinc 4 1, 3) := by decide +kernel
theorem dX6_helps_75 : decode cX6_helps 75 = .ok (.goto (-55), 3) := by decide +kernel
theorem dX6_helps_78 : decode cX6_helps 78 = .ok (.iload_n 1, 1) := by decide +kernel
theorem dX6_helps_79 : decode cX6_helps 79 = .ok (.ifCond .ne 7, 3) := by decide +kernel
theorem dX6_helps_82 : decode cX6_helps 82 = .ok (.iload_n 2, 1) := by decide +kernel
theorem dX6_helps_83 : decode cX6_helps 83 = .ok (.goto 4, 3) := by decide +kernel
theorem dX6_helps_86 : decode cX6_helps 86 = .ok (.iload_n 3, 1) := by decide +kernel
theorem dX6_helps_87 : decode cX6_helps 87 = .ok (.ireturn, 1) := by decide +kernel
theorem dX6_comersHelpedIn_0 : decode cX6_comersHelpedIn 0 = .ok (.aload_n 0, 1) := by decide +kernel
theorem dX6_comersHelpedIn_1 : decode cX6_comersHelpedIn 1 = .ok (.getfield 23, 3) := by decide +kernel
theorem dX6_comersHelpedIn_4 : decode cX6_comersHelpedIn 4 = .ok (.aload_n 0, 1) := by decide +kernel
theorem dX6_comersHelpedIn_5 : decode cX6_comersHelpedIn 5 = .ok (.getfield 19, 3) := by decide +kernel
theorem dX6_comersHelpedIn_8 : decode cX6_comersHelpedIn 8 = .ok (.invokevirtual 80, 3) := by decide +kernel
theorem dX6_comersHelpedIn_11 : decode cX6_comersHelpedIn 11 = .ok (.aload_n 0, 1) := by decide +kernel
theorem dX6_comersHelpedIn_12 : decode cX6_comersHelpedIn 12 = .ok (.getfield 23, 3) := by decide +kernel
theorem dX6_comersHelpedIn_15 : decode cX6_comersHelpedIn 15 = .ok (.iload_n 1, 1) := by decide +kernel
theorem dX6_comersHelpedIn_16 : decode cX6_comersHelpedIn 16 = .ok (.invokevirtual 183, 3) := by decide +kernel
theorem dX6_comersHelpedIn_19 : decode cX6_comersHelpedIn 19 = .ok (.aload_n 0, 1) := by decide +kernel
theorem dX6_comersHelpedIn_20 : decode cX6_comersHelpedIn 20 = .ok (.getfield 23, 3) := by decide +kernel
theorem dX6_comersHelpedIn_23 : decode cX6_comersHelpedIn 23 = .ok (.bipush 40, 2) := by decide +kernel
theorem dX6_comersHelpedIn_25 : decode cX6_comersHelpedIn 25 = .ok (.invokevirtual 144, 3) := by decide +kernel
theorem dX6_comersHelpedIn_28 : decode cX6_comersHelpedIn 28 = .ok (.aload_n 0, 1) := by decide +kernel
theorem dX6_comersHelpedIn_29 : decode cX6_comersHelpedIn 29 = .ok (.getfield 23, 3) := by decide +kernel
theorem dX6_comersHelpedIn_32 : decode cX6_comersHelpedIn 32 = .ok (.invokevirtual 186, 3) := by decide +kernel
theorem dX6_comersHelpedIn_35 : decode cX6_comersHelpedIn 35 = .ok (.ireturn, 1) := by decide +kernel
theorem dX6_paints_0 : decode cX6_paints 0 = .ok (.iload_n 1, 1) := by decide +kernel
theorem dX6_paints_1 : decode cX6_paints 1 = .ok (.ifCond .lt 8, 3) := by decide +kernel
theorem dX6_paints_4 : decode cX6_paints 4 = .ok (.iload_n 1, 1) := by decide +kernel
theorem dX6_paints_5 : decode cX6_paints 5 = .ok (.iconst 1, 1) := by decide +kernel
theorem dX6_paints_6 : decode cX6_paints 6 = .ok (.if_icmp .le 5, 3) := by decide +kernel
theorem dX6_paints_9 : decode cX6_paints 9 = .ok (.iconst (-1), 1) := by decide +kernel
theorem dX6_paints_10 : decode cX6_paints 10 = .ok (.ireturn, 1) := by decide +kernel
theorem dX6_paints_11 : decode cX6_paints 11 = .ok (.iconst 0, 1) := by decide +kernel
theorem dX6_paints_12 : decode cX6_paints 12 = .ok (.istore_n 2, 1) := by decide +kernel
theorem dX6_paints_13 : decode cX6_paints 13 = .ok (.aload_n 0, 1) := by decide +kernel
theorem dX6_paints_14 : decode cX6_paints 14 = .ok (.iconst 0, 1) := by decide +kernel
theorem dX6_paints_15 : decode cX6_paints 15 = .ok (.invokevirtual 189, 3) := by decide +kernel
theorem dX6_paints_18 : decode cX6_paints 18 = .ok (.istore_n 3, 1) := by decide +kernel
theorem dX6_paints_19 : decode cX6_paints 19 = .ok (.iconst 1, 1) := by decide +kernel
theorem dX6_paints_20 : decode cX6_paints 20 = .ok (.aload_n 0, 1) := by decide +kernel
theorem dX6_paints_21 : decode cX6_paints 21 = .ok (.getfield 19, 3) := by decide +kernel
theorem dX6_paints_24 : decode cX6_paints 24 = .ok (.invokevirtual 74, 3) := by decide +kernel
theorem dX6_paints_27 : decode cX6_paints 27 = .ok (.ishl, 1) := by decide +kernel
theorem dX6_paints_28 : decode cX6_paints 28 = .ok (.istore 4, 2) := by decide +kernel
theorem dX6_paints_30 : decode cX6_paints 30 = .ok (.iconst 1, 1) := by decide +kernel
theorem dX6_paints_31 : decode cX6_paints 31 = .ok (.istore 5, 2) := by decide +kernel
theorem dX6_paints_33 : decode cX6_paints 33 = .ok (.iload 5, 2) := by decide +kernel
theorem dX6_paints_35 : decode cX6_paints 35 = .ok (.iload 4, 2) := by decide +kernel
theorem dX6_paints_37 : decode cX6_paints 37 = .ok (.if_icmp .ge 71, 3) := by decide +kernel
theorem dX6_paints_40 : decode cX6_paints 40 = .ok (.aload_n 0, 1) := by decide +kernel
theorem dX6_paints_41 : decode cX6_paints 41 = .ok (.getfield 19, 3) := by decide +kernel
theorem dX6_paints_44 : decode cX6_paints 44 = .ok (.iload 5, 2) := by decide +kernel
theorem dX6_paints_46 : decode cX6_paints 46 = .ok (.invokevirtual 192, 3) := by decide +kernel
theorem dX6_paints_49 : decode cX6_paints 49 = .ok (.ifCond .eq 53, 3) := by decide +kernel
theorem dX6_paints_52 : decode cX6_paints 52 = .ok (.aload_n 0, 1) := by decide +kernel
theorem dX6_paints_53 : decode cX6_paints 53 = .ok (.iload 5, 2) := by decide +kernel
theorem dX6_paints_55 : decode cX6_paints 55 = .ok (.invokevirtual 189, 3) := by decide +kernel
theorem dX6_paints_58 : decode cX6_paints 58 = .ok (.istore 6, 2) := by decide +kernel
theorem dX6_paints_60 : decode cX6_paints 60 = .ok (.iload 5, 2) := by decide +kernel
theorem dX6_paints_62 : decode cX6_paints 62 = .ok (.invokestatic 195, 3) := by decide +kernel
theorem dX6_paints_65 : decode cX6_paints 65 = .ok (.iload_n 2, 1) := by decide +kernel
theorem dX6_paints_66 : decode cX6_paints 66 = .ok (.invokestatic 195, 3) := by decide +kernel
theorem dX6_paints_69 : decode cX6_paints 69 = .ok (.if_icmp .ge 7, 3) := by decide +kernel
theorem dX6_paints_72 : decode cX6_paints 72 = .ok (.iconst 1, 1) := by decide +kernel
theorem dX6_paints_73 : decode cX6_paints 73 = .ok (.goto 4, 3) := by decide +kernel
theorem dX6_paints_76 : decode cX6_paints 76 = .ok (.iconst 0, 1) := by decide +kernel
theorem dX6_paints_77 : decode cX6_paints 77 = .ok (.istore 7, 2) := by decide +kernel
theorem dX6_paints_79 : decode cX6_paints 79 = .ok (.iload 6, 2) := by decide +kernel
theorem dX6_paints_81 : decode cX6_paints 81 = .ok (.iload_n 3, 1) := by decide +kernel
theorem dX6_paints_82 : decode cX6_paints 82 = .ok (.if_icmp .gt 14, 3) := by decide +kernel
theorem dX6_paints_85 : decode cX6_paints 85 = .ok (.iload 6, 2) := by decide +kernel
theorem dX6_paints_87 : decode cX6_paints 87 = .ok (.iload_n 3, 1) := by decide +kernel
theorem dX6_paints_88 : decode cX6_paints 88 = .ok (.if_icmp .ne 14, 3) := by decide +kernel
theorem dX6_paints_91 : decode cX6_paints 91 = .ok (.iload 7, 2) := by decide +kernel
theorem dX6_paints_93 : decode cX6_paints 93 = .ok (.ifCond .eq 9, 3) := by decide +kernel
theorem dX6_paints_96 : decode cX6_paints 96 = .ok (.iload 5, 2) := by decide +kernel
theorem dX6_paints_98 : decode cX6_paints 98 = .ok (.istore_n 2, 1) := by decide +kernel
theorem dX6_paints_99 : decode cX6_paints 99 = .ok (.iload 6, 2) := by decide +kernel
theorem dX6_paints_101 : decode cX6_paints 101 = .ok (.istore_n 3, 1) := by decide +kernel
theorem dX6_paints_102 : decode cX6_paints 102 = .ok (.iinc 5 1, 3) := by decide +kernel
theorem dX6_paints_105 : decode cX6_paints 105 = .ok (.goto (-72), 3) := by decide +kernel
theorem dX6_paints_108 : decode cX6_paints 108 = .ok (.iload_n 1, 1) := by decide +kernel
theorem dX6_paints_109 : decode cX6_paints 109 = .ok (.ifCond .ne 7, 3) := by decide +kernel
theorem dX6_paints_112 : decode cX6_paints 112 = .ok (.iload_n 2, 1) := by decide +kernel
theorem dX6_paints_113 : decode cX6_paints 113 = .ok (.goto 4, 3) := by decide +kernel
theorem dX6_paints_116 : decode cX6_paints 116 = .ok (.iload_n 3, 1) := by decide +kernel
theorem dX6_paints_117 : decode cX6_paints 117 = .ok (.ireturn, 1) := by decide +kernel
theorem dX6_comersPainted_0 : decode cX6_comersPainted 0 = .ok (.aload_n 0, 1) := by decide +kernel
theorem dX6_comersPainted_1 : decode cX6_comersPainted 1 = .ok (.getfield 23, 3) := by decide +kernel
theorem dX6_comersPainted_4 : decode cX6_comersPainted 4 = .ok (.aload_n 0, 1) := by decide +kernel
theorem dX6_comersPainted_5 : decode cX6_comersPainted 5 = .ok (.getfield 19, 3) := by decide +kernel
theorem dX6_comersPainted_8 : decode cX6_comersPainted 8 = .ok (.invokevirtual 80, 3) := by decide +kernel
theorem dX6_comersPainted_11 : decode cX6_comersPainted 11 = .ok (.iconst 0, 1) := by decide +kernel
theorem dX6_comersPainted_12 : decode cX6_comersPainted 12 = .ok (.istore_n 2, 1) := by decide +kernel
theorem dX6_comersPainted_13 : decode cX6_comersPainted 13 = .ok (.iload_n 2, 1) := by decide +kernel
theorem dX6_comersPainted_14 : decode cX6_comersPainted 14 = .ok (.aload_n 0, 1) := by decide +kernel
theorem dX6_comersPainted_15 : decode cX6_comersPainted 15 = .ok (.getfield 19, 3) := by decide +kernel
theorem dX6_comersPainted_18 : decode cX6_comersPainted 18 = .ok (.invokevirtual 74, 3) := by decide +kernel
theorem dX6_comersPainted_21 : decode cX6_comersPainted 21 = .ok (.if_icmp .ge 26, 3) := by decide +kernel
theorem dX6_comersPainted_24 : decode cX6_comersPainted 24 = .ok (.iload_n 1, 1) := by decide +kernel
theorem dX6_comersPainted_25 : decode cX6_comersPainted 25 = .ok (.iload_n 2, 1) := by decide +kernel
theorem dX6_comersPainted_26 : decode cX6_comersPainted 26 = .ok (.invokestatic 200, 3) := by decide +kernel
theorem dX6_comersPainted_29 : decode cX6_comersPainted 29 = .ok (.ifCond .eq 12, 3) := by decide +kernel
theorem dX6_comersPainted_32 : decode cX6_comersPainted 32 = .ok (.aload_n 0, 1) := by decide +kernel
theorem dX6_comersPainted_33 : decode cX6_comersPainted 33 = .ok (.getfield 23, 3) := by decide +kernel
theorem dX6_comersPainted_36 : decode cX6_comersPainted 36 = .ok (.iload_n 2, 1) := by decide +kernel
theorem dX6_comersPainted_37 : decode cX6_comersPainted 37 = .ok (.invokevirtual 157, 3) := by decide +kernel
theorem dX6_comersPainted_40 : decode cX6_comersPainted 40 = .ok (.pop, 1) := by decide +kernel
theorem dX6_comersPainted_41 : decode cX6_comersPainted 41 = .ok (.iinc 2 1, 3) := by decide +kernel
theorem dX6_comersPainted_44 : decode cX6_comersPainted 44 = .ok (.goto (-31), 3) := by decide +kernel
theorem dX6_comersPainted_47 : decode cX6_comersPainted 47 = .ok (.aload_n 0, 1) := by decide +kernel
theorem dX6_comersPainted_48 : decode cX6_comersPainted 48 = .ok (.getfield 23, 3) := by decide +kernel
theorem dX6_comersPainted_51 : decode cX6_comersPainted 51 = .ok (.bipush 40, 2) := by decide +kernel
theorem dX6_comersPainted_53 : decode cX6_comersPainted 53 = .ok (.invokevirtual 144, 3) := by decide +kernel
theorem dX6_comersPainted_56 : decode cX6_comersPainted 56 = .ok (.aload_n 0, 1) := by decide +kernel
theorem dX6_comersPainted_57 : decode cX6_comersPainted 57 = .ok (.getfield 23, 3) := by decide +kernel
theorem dX6_comersPainted_60 : decode cX6_comersPainted 60 = .ok (.invokevirtual 186, 3) := by decide +kernel
theorem dX6_comersPainted_63 : decode cX6_comersPainted 63 = .ok (.ireturn, 1) := by decide +kernel
theorem dX6_cover_0 : decode cX6_cover 0 = .ok (.iload_n 1, 1) := by decide +kernel
theorem dX6_cover_1 : decode cX6_cover 1 = .ok (.ifCond .lt 8, 3) := by decide +kernel
theorem dX6_cover_4 : decode cX6_cover 4 = .ok (.iload_n 1, 1) := by decide +kernel
theorem dX6_cover_5 : decode cX6_cover 5 = .ok (.iconst 1, 1) := by decide +kernel
theorem dX6_cover_6 : decode cX6_cover 6 = .ok (.if_icmp .le 5, 3) := by decide +kernel
theorem dX6_cover_9 : decode cX6_cover 9 = .ok (.iconst (-1), 1) := by decide +kernel
theorem dX6_cover_10 : decode cX6_cover 10 = .ok (.ireturn, 1) := by decide +kernel
theorem dX6_cover_11 : decode cX6_cover 11 = .ok (.bipush (-4), 2) := by decide +kernel
theorem dX6_cover_13 : decode cX6_cover 13 = .ok (.istore_n 2, 1) := by decide +kernel
theorem dX6_cover_14 : decode cX6_cover 14 = .ok (.iconst 1, 1) := by decide +kernel
theorem dX6_cover_15 : decode cX6_cover 15 = .ok (.aload_n 0, 1) := by decide +kernel
theorem dX6_cover_16 : decode cX6_cover 16 = .ok (.getfield 19, 3) := by decide +kernel
theorem dX6_cover_19 : decode cX6_cover 19 = .ok (.invokevirtual 174, 3) := by decide +kernel
theorem dX6_cover_22 : decode cX6_cover 22 = .ok (.ishl, 1) := by decide +kernel
theorem dX6_cover_23 : decode cX6_cover 23 = .ok (.istore_n 3, 1) := by decide +kernel
theorem dX6_cover_24 : decode cX6_cover 24 = .ok (.iconst 0, 1) := by decide +kernel
theorem dX6_cover_25 : decode cX6_cover 25 = .ok (.istore 4, 2) := by decide +kernel
theorem dX6_cover_27 : decode cX6_cover 27 = .ok (.iload 4, 2) := by decide +kernel
theorem dX6_cover_29 : decode cX6_cover 29 = .ok (.iload_n 3, 1) := by decide +kernel
theorem dX6_cover_30 : decode cX6_cover 30 = .ok (.if_icmp .ge 51, 3) := by decide +kernel
theorem dX6_cover_33 : decode cX6_cover 33 = .ok (.iload_n 2, 1) := by decide +kernel
theorem dX6_cover_34 : decode cX6_cover 34 = .ok (.bipush (-4), 2) := by decide +kernel
theorem dX6_cover_36 : decode cX6_cover 36 = .ok (.if_icmp .eq 15, 3) := by decide +kernel
theorem dX6_cover_39 : decode cX6_cover 39 = .ok (.iload 4, 2) := by decide +kernel
theorem dX6_cover_41 : decode cX6_cover 41 = .ok (.invokestatic 195, 3) := by decide +kernel
theorem dX6_cover_44 : decode cX6_cover 44 = .ok (.iload_n 2, 1) := by decide +kernel
theorem dX6_cover_45 : decode cX6_cover 45 = .ok (.invokestatic 195, 3) := by decide +kernel
theorem dX6_cover_48 : decode cX6_cover 48 = .ok (.if_icmp .ge 7, 3) := by decide +kernel
theorem dX6_cover_51 : decode cX6_cover 51 = .ok (.iconst 1, 1) := by decide +kernel
theorem dX6_cover_52 : decode cX6_cover 52 = .ok (.goto 4, 3) := by decide +kernel
theorem dX6_cover_55 : decode cX6_cover 55 = .ok (.iconst 0, 1) := by decide +kernel
theorem dX6_cover_56 : decode cX6_cover 56 = .ok (.istore 5, 2) := by decide +kernel
theorem dX6_cover_58 : decode cX6_cover 58 = .ok (.iload 5, 2) := by decide +kernel
theorem dX6_cover_60 : decode cX6_cover 60 = .ok (.ifCond .eq 15, 3) := by decide +kernel
theorem dX6_cover_63 : decode cX6_cover 63 = .ok (.aload_n 0, 1) := by decide +kernel
theorem dX6_cover_64 : decode cX6_cover 64 = .ok (.iload 4, 2) := by decide +kernel
theorem dX6_cover_66 : decode cX6_cover 66 = .ok (.invokevirtual 203, 3) := by decide +kernel
theorem dX6_cover_69 : decode cX6_cover 69 = .ok (.ifCond .eq 6, 3) := by decide +kernel
theorem dX6_cover_72 : decode cX6_cover 72 = .ok (.iload 4, 2) := by decide +kernel
theorem dX6_cover_74 : decode cX6_cover 74 = .ok (.istore_n 2, 1) := by decide +kernel
theorem dX6_cover_75 : decode cX6_cover 75 = .ok (.iinc 4 1, 3) := by decide +kernel
theorem dX6_cover_78 : decode cX6_cover 78 = .ok (.goto (-51), 3) := by decide +kernel
theorem dX6_cover_81 : decode cX6_cover 81 = .ok (.iload_n 2, 1) := by decide +kernel
theorem dX6_cover_82 : decode cX6_cover 82 = .ok (.bipush (-4), 2) := by decide +kernel
theorem dX6_cover_84 : decode cX6_cover 84 = .ok (.if_icmp .ne 6, 3) := by decide +kernel
theorem dX6_cover_87 : decode cX6_cover 87 = .ok (.bipush (-4), 2) := by decide +kernel
theorem dX6_cover_89 : decode cX6_cover 89 = .ok (.ireturn, 1) := by decide +kernel
theorem dX6_cover_90 : decode cX6_cover 90 = .ok (.iload_n 1, 1) := by decide +kernel
theorem dX6_cover_91 : decode cX6_cover 91 = .ok (.ifCond .ne 10, 3) := by decide +kernel
theorem dX6_cover_94 : decode cX6_cover 94 = .ok (.iload_n 2, 1) := by decide +kernel
theorem dX6_cover_95 : decode cX6_cover 95 = .ok (.invokestatic 195, 3) := by decide +kernel
theorem dX6_cover_98 : decode cX6_cover 98 = .ok (.goto 4, 3) := by decide +kernel
theorem dX6_cover_101 : decode cX6_cover 101 = .ok (.iload_n 2, 1) := by decide +kernel
theorem dX6_cover_102 : decode cX6_cover 102 = .ok (.ireturn, 1) := by decide +kernel
theorem dX6_isCover_0 : decode cX6_isCover 0 = .ok (.aload_n 0, 1) := by decide +kernel
theorem dX6_isCover_1 : decode cX6_isCover 1 = .ok (.getfield 23, 3) := by decide +kernel
theorem dX6_isCover_4 : decode cX6_isCover 4 = .ok (.aload_n 0, 1) := by decide +kernel
theorem dX6_isCover_5 : decode cX6_isCover 5 = .ok (.getfield 19, 3) := by decide +kernel
theorem dX6_isCover_8 : decode cX6_isCover 8 = .ok (.invokevirtual 80, 3) := by decide +kernel
theorem dX6_isCover_11 : decode cX6_isCover 11 = .ok (.aload_n 0, 1) := by decide +kernel
theorem dX6_isCover_12 : decode cX6_isCover 12 = .ok (.getfield 23, 3) := by decide +kernel
theorem dX6_isCover_15 : decode cX6_isCover 15 = .ok (.invokevirtual 206, 3) := by decide +kernel
theorem dX6_isCover_18 : decode cX6_isCover 18 = .ok (.iconst 0, 1) := by decide +kernel
theorem dX6_isCover_19 : decode cX6_isCover 19 = .ok (.istore_n 2, 1) := by decide +kernel
theorem dX6_isCover_20 : decode cX6_isCover 20 = .ok (.iload_n 2, 1) := by decide +kernel
theorem dX6_isCover_21 : decode cX6_isCover 21 = .ok (.aload_n 0, 1) := by decide +kernel
theorem dX6_isCover_22 : decode cX6_isCover 22 = .ok (.getfield 19, 3) := by decide +kernel
theorem dX6_isCover_25 : decode cX6_isCover 25 = .ok (.invokevirtual 174, 3) := by decide +kernel
theorem dX6_isCover_28 : decode cX6_isCover 28 = .ok (.if_icmp .ge 25, 3) := by decide +kernel
theorem dX6_isCover_31 : decode cX6_isCover 31 = .ok (.iload_n 1, 1) := by decide +kernel
theorem dX6_isCover_32 : decode cX6_isCover 32 = .ok (.iload_n 2, 1) := by decide +kernel
theorem dX6_isCover_33 : decode cX6_isCover 33 = .ok (.invokestatic 200, 3) := by decide +kernel
theorem dX6_isCover_36 : decode cX6_isCover 36 = .ok (.ifCond .eq 11, 3) := by decide +kernel
theorem dX6_isCover_39 : decode cX6_isCover 39 = .ok (.aload_n 0, 1) := by decide +kernel
theorem dX6_isCover_40 : decode cX6_isCover 40 = .ok (.getfield 23, 3) := by decide +kernel
theorem dX6_isCover_43 : decode cX6_isCover 43 = .ok (.iload_n 2, 1) := by decide +kernel
theorem dX6_isCover_44 : decode cX6_isCover 44 = .ok (.invokevirtual 183, 3) := by decide +kernel
theorem dX6_isCover_47 : decode cX6_isCover 47 = .ok (.iinc 2 1, 3) := by decide +kernel
theorem dX6_isCover_50 : decode cX6_isCover 50 = .ok (.goto (-30), 3) := by decide +kernel
theorem dX6_isCover_53 : decode cX6_isCover 53 = .ok (.aload_n 0, 1) := by decide +kernel
theorem dX6_isCover_54 : decode cX6_isCover 54 = .ok (.getfield 23, 3) := by decide +kernel
theorem dX6_isCover_57 : decode cX6_isCover 57 = .ok (.bipush 40, 2) := by decide +kernel
theorem dX6_isCover_59 : decode cX6_isCover 59 = .ok (.invokevirtual 144, 3) := by decide +kernel
theorem dX6_isCover_62 : decode cX6_isCover 62 = .ok (.aload_n 0, 1) := by decide +kernel
theorem dX6_isCover_63 : decode cX6_isCover 63 = .ok (.getfield 23, 3) := by decide +kernel
theorem dX6_isCover_66 : decode cX6_isCover 66 = .ok (.invokevirtual 186, 3) := by decide +kernel
theorem dX6_isCover_69 : decode cX6_isCover 69 = .ok (.aload_n 0, 1) := by decide +kernel
theorem dX6_isCover_70 : decode cX6_isCover 70 = .ok (.getfield 23, 3) := by decide +kernel
theorem dX6_isCover_73 : decode cX6_isCover 73 = .ok (.invokevirtual 77, 3) := by decide +kernel
theorem dX6_isCover_76 : decode cX6_isCover 76 = .ok (.if_icmp .ne 7, 3) := by decide +kernel
theorem dX6_isCover_79 : decode cX6_isCover 79 = .ok (.iconst 1, 1) := by decide +kernel
theorem dX6_isCover_80 : decode cX6_isCover 80 = .ok (.goto 4, 3) := by decide +kernel
theorem dX6_isCover_83 : decode cX6_isCover 83 = .ok (.iconst 0, 1) := by decide +kernel
theorem dX6_isCover_84 : decode cX6_isCover 84 = .ok (.ireturn, 1) := by decide +kernel
theorem dX6_far_0 : decode cX6_far 0 = .ok (.aload_n 0, 1) := by decide +kernel
theorem dX6_far_1 : decode cX6_far 1 = .ok (.getfield 19, 3) := by decide +kernel
theorem dX6_far_4 : decode cX6_far 4 = .ok (.iload_n 1, 1) := by decide +kernel
theorem dX6_far_5 : decode cX6_far 5 = .ok (.invokevirtual 114, 3) := by decide +kernel
theorem dX6_far_8 : decode cX6_far 8 = .ok (.ifCond .eq 14, 3) := by decide +kernel
theorem dX6_far_11 : decode cX6_far 11 = .ok (.aload_n 0, 1) := by decide +kernel
theorem dX6_far_12 : decode cX6_far 12 = .ok (.getfield 19, 3) := by decide +kernel
theorem dX6_far_15 : decode cX6_far 15 = .ok (.iload_n 2, 1) := by decide +kernel
theorem dX6_far_16 : decode cX6_far 16 = .ok (.invokevirtual 114, 3) := by decide +kernel
theorem dX6_far_19 : decode cX6_far 19 = .ok (.ifCond .ne 5, 3) := by decide +kernel
theorem dX6_far_22 : decode cX6_far 22 = .ok (.iconst (-1), 1) := by decide +kernel
theorem dX6_far_23 : decode cX6_far 23 = .ok (.ireturn, 1) := by decide +kernel
theorem dX6_far_24 : decode cX6_far 24 = .ok (.aload_n 0, 1) := by decide +kernel
theorem dX6_far_25 : decode cX6_far 25 = .ok (.getfield 19, 3) := by decide +kernel
theorem dX6_far_28 : decode cX6_far 28 = .ok (.invokevirtual 91, 3) := by decide +kernel
theorem dX6_far_31 : decode cX6_far 31 = .ok (.iload_n 1, 1) := by decide +kernel
theorem dX6_far_32 : decode cX6_far 32 = .ok (.iload_n 2, 1) := by decide +kernel
theorem dX6_far_33 : decode cX6_far 33 = .ok (.invokevirtual 209, 3) := by decide +kernel
theorem dX6_far_36 : decode cX6_far 36 = .ok (.ireturn, 1) := by decide +kernel
theorem dX6_told_0 : decode cX6_told 0 = .ok (.aload_n 0, 1) := by decide +kernel
theorem dX6_told_1 : decode cX6_told 1 = .ok (.getfield 19, 3) := by decide +kernel
theorem dX6_told_4 : decode cX6_told 4 = .ok (.iload_n 1, 1) := by decide +kernel
theorem dX6_told_5 : decode cX6_told 5 = .ok (.invokevirtual 114, 3) := by decide +kernel
theorem dX6_told_8 : decode cX6_told 8 = .ok (.ifCond .eq 24, 3) := by decide +kernel
theorem dX6_told_11 : decode cX6_told 11 = .ok (.aload_n 0, 1) := by decide +kernel
theorem dX6_told_12 : decode cX6_told 12 = .ok (.getfield 19, 3) := by decide +kernel
theorem dX6_told_15 : decode cX6_told 15 = .ok (.iload_n 2, 1) := by decide +kernel
theorem dX6_told_16 : decode cX6_told 16 = .ok (.invokevirtual 114, 3) := by decide +kernel
theorem dX6_told_19 : decode cX6_told 19 = .ok (.ifCond .eq 13, 3) := by decide +kernel
theorem dX6_told_22 : decode cX6_told 22 = .ok (.iload_n 3, 1) := by decide +kernel
theorem dX6_told_23 : decode cX6_told 23 = .ok (.ifCond .lt 9, 3) := by decide +kernel
theorem dX6_told_26 : decode cX6_told 26 = .ok (.iload_n 3, 1) := by decide +kernel
theorem dX6_told_27 : decode cX6_told 27 = .ok (.bipush 72, 2) := by decide +kernel
theorem dX6_told_29 : decode cX6_told 29 = .ok (.if_icmp .le 5, 3) := by decide +kernel
theorem dX6_told_32 : decode cX6_told 32 = .ok (.iconst (-1), 1) := by decide +kernel
theorem dX6_told_33 : decode cX6_told 33 = .ok (.ireturn, 1) := by decide +kernel
theorem dX6_told_34 : decode cX6_told 34 = .ok (.aload_n 0, 1) := by decide +kernel
theorem dX6_told_35 : decode cX6_told 35 = .ok (.getfield 41, 3) := by decide +kernel
theorem dX6_told_38 : decode cX6_told 38 = .ok (.iload_n 1, 1) := by decide +kernel
theorem dX6_told_39 : decode cX6_told 39 = .ok (.iload_n 2, 1) := by decide +kernel
theorem dX6_told_40 : decode cX6_told 40 = .ok (.iload_n 3, 1) := by decide +kernel
theorem dX6_told_41 : decode cX6_told 41 = .ok (.invokevirtual 212, 3) := by decide +kernel
theorem dX6_told_44 : decode cX6_told 44 = .ok (.ireturn, 1) := by decide +kernel
theorem dX6_stood_0 : decode cX6_stood 0 = .ok (.iconst 0, 1) := by decide +kernel
theorem dX6_stood_1 : decode cX6_stood 1 = .ok (.istore_n 1, 1) := by decide +kernel
theorem dX6_stood_2 : decode cX6_stood 2 = .ok (.iconst 0, 1) := by decide +kernel
theorem dX6_stood_3 : decode cX6_stood 3 = .ok (.istore_n 2, 1) := by decide +kernel
theorem dX6_stood_4 : decode cX6_stood 4 = .ok (.iload_n 2, 1) := by decide +kernel
theorem dX6_stood_5 : decode cX6_stood 5 = .ok (.aload_n 0, 1) := by decide +kernel
theorem dX6_stood_6 : decode cX6_stood 6 = .ok (.getfield 19, 3) := by decide +kernel
theorem dX6_stood_9 : decode cX6_stood 9 = .ok (.invokevirtual 174, 3) := by decide +kernel
theorem dX6_stood_12 : decode cX6_stood 12 = .ok (.if_icmp .ge 23, 3) := by decide +kernel
theorem dX6_stood_15 : decode cX6_stood 15 = .ok (.aload_n 0, 1) := by decide +kernel
theorem dX6_stood_16 : decode cX6_stood 16 = .ok (.iload_n 2, 1) := by decide +kernel
theorem dX6_stood_17 : decode cX6_stood 17 = .ok (.invokevirtual 216, 3) := by decide +kernel
theorem dX6_stood_20 : decode cX6_stood 20 = .ok (.ifCond .eq 9, 3) := by decide +kernel
theorem dX6_stood_23 : decode cX6_stood 23 = .ok (.iload_n 1, 1) := by decide +kernel
theorem dX6_stood_24 : decode cX6_stood 24 = .ok (.iconst 1, 1) := by decide +kernel
theorem dX6_stood_25 : decode cX6_stood 25 = .ok (.iload_n 2, 1) := by decide +kernel
theorem dX6_stood_26 : decode cX6_stood 26 = .ok (.ishl, 1) := by decide +kernel
theorem dX6_stood_27 : decode cX6_stood 27 = .ok (.ior, 1) := by decide +kernel
theorem dX6_stood_28 : decode cX6_stood 28 = .ok (.istore_n 1, 1) := by decide +kernel
theorem dX6_stood_29 : decode cX6_stood 29 = .ok (.iinc 2 1, 3) := by decide +kernel
theorem dX6_stood_32 : decode cX6_stood 32 = .ok (.goto (-28), 3) := by decide +kernel
theorem dX6_stood_35 : decode cX6_stood 35 = .ok (.iload_n 1, 1) := by decide +kernel
theorem dX6_stood_36 : decode cX6_stood 36 = .ok (.ireturn, 1) := by decide +kernel
theorem dX6_tellsAll_0 : decode cX6_tellsAll 0 = .ok (.aload_n 0, 1) := by decide +kernel
theorem dX6_tellsAll_1 : decode cX6_tellsAll 1 = .ok (.getfield 19, 3) := by decide +kernel
theorem dX6_tellsAll_4 : decode cX6_tellsAll 4 = .ok (.invokevirtual 91, 3) := by decide +kernel
theorem dX6_tellsAll_7 : decode cX6_tellsAll 7 = .ok (.astore_n 2, 1) := by decide +kernel
theorem dX6_tellsAll_8 : decode cX6_tellsAll 8 = .ok (.iconst 0, 1) := by decide +kernel
theorem dX6_tellsAll_9 : decode cX6_tellsAll 9 = .ok (.istore_n 3, 1) := by decide +kernel
theorem dX6_tellsAll_10 : decode cX6_tellsAll 10 = .ok (.iload_n 3, 1) := by decide +kernel
theorem dX6_tellsAll_11 : decode cX6_tellsAll 11 = .ok (.aload_n 0, 1) := by decide +kernel
theorem dX6_tellsAll_12 : decode cX6_tellsAll 12 = .ok (.getfield 41, 3) := by decide +kernel
theorem dX6_tellsAll_15 : decode cX6_tellsAll 15 = .ok (.invokevirtual 219, 3) := by decide +kernel
theorem dX6_tellsAll_18 : decode cX6_tellsAll 18 = .ok (.if_icmp .ge 72, 3) := by decide +kernel
theorem dX6_tellsAll_21 : decode cX6_tellsAll 21 = .ok (.aload_n 0, 1) := by decide +kernel
theorem dX6_tellsAll_22 : decode cX6_tellsAll 22 = .ok (.getfield 41, 3) := by decide +kernel
theorem dX6_tellsAll_25 : decode cX6_tellsAll 25 = .ok (.iload_n 3, 1) := by decide +kernel
theorem dX6_tellsAll_26 : decode cX6_tellsAll 26 = .ok (.iconst 0, 1) := by decide +kernel
theorem dX6_tellsAll_27 : decode cX6_tellsAll 27 = .ok (.invokevirtual 220, 3) := by decide +kernel
theorem dX6_tellsAll_30 : decode cX6_tellsAll 30 = .ok (.istore 4, 2) := by decide +kernel
theorem dX6_tellsAll_32 : decode cX6_tellsAll 32 = .ok (.aload_n 2, 1) := by decide +kernel
theorem dX6_tellsAll_33 : decode cX6_tellsAll 33 = .ok (.iload_n 1, 1) := by decide +kernel
theorem dX6_tellsAll_34 : decode cX6_tellsAll 34 = .ok (.iload 4, 2) := by decide +kernel
theorem dX6_tellsAll_36 : decode cX6_tellsAll 36 = .ok (.invokevirtual 223, 3) := by decide +kernel
theorem dX6_tellsAll_39 : decode cX6_tellsAll 39 = .ok (.aload_n 0, 1) := by decide +kernel
theorem dX6_tellsAll_40 : decode cX6_tellsAll 40 = .ok (.getfield 41, 3) := by decide +kernel
theorem dX6_tellsAll_43 : decode cX6_tellsAll 43 = .ok (.iload_n 3, 1) := by decide +kernel
theorem dX6_tellsAll_44 : decode cX6_tellsAll 44 = .ok (.iconst 1, 1) := by decide +kernel
theorem dX6_tellsAll_45 : decode cX6_tellsAll 45 = .ok (.invokevirtual 220, 3) := by decide +kernel
theorem dX6_tellsAll_48 : decode cX6_tellsAll 48 = .ok (.if_icmp .ne 7, 3) := by decide +kernel
theorem dX6_tellsAll_51 : decode cX6_tellsAll 51 = .ok (.iconst 1, 1) := by decide +kernel
theorem dX6_tellsAll_52 : decode cX6_tellsAll 52 = .ok (.goto 4, 3) := by decide +kernel
theorem dX6_tellsAll_55 : decode cX6_tellsAll 55 = .ok (.iconst 0, 1) := by decide +kernel
theorem dX6_tellsAll_56 : decode cX6_tellsAll 56 = .ok (.istore 5, 2) := by decide +kernel
theorem dX6_tellsAll_58 : decode cX6_tellsAll 58 = .ok (.iload 5, 2) := by decide +kernel
theorem dX6_tellsAll_60 : decode cX6_tellsAll 60 = .ok (.ifCond .eq 22, 3) := by decide +kernel
theorem dX6_tellsAll_63 : decode cX6_tellsAll 63 = .ok (.aload_n 2, 1) := by decide +kernel
theorem dX6_tellsAll_64 : decode cX6_tellsAll 64 = .ok (.iload_n 1, 1) := by decide +kernel
theorem dX6_tellsAll_65 : decode cX6_tellsAll 65 = .ok (.iload 4, 2) := by decide +kernel
theorem dX6_tellsAll_67 : decode cX6_tellsAll 67 = .ok (.invokevirtual 209, 3) := by decide +kernel
theorem dX6_tellsAll_70 : decode cX6_tellsAll 70 = .ok (.aload_n 0, 1) := by decide +kernel
theorem dX6_tellsAll_71 : decode cX6_tellsAll 71 = .ok (.getfield 41, 3) := by decide +kernel
theorem dX6_tellsAll_74 : decode cX6_tellsAll 74 = .ok (.iload_n 3, 1) := by decide +kernel
theorem dX6_tellsAll_75 : decode cX6_tellsAll 75 = .ok (.iconst 2, 1) := by decide +kernel
theorem dX6_tellsAll_76 : decode cX6_tellsAll 76 = .ok (.invokevirtual 220, 3) := by decide +kernel
theorem dX6_tellsAll_79 : decode cX6_tellsAll 79 = .ok (.if_icmp .eq 5, 3) := by decide +kernel
theorem dX6_tellsAll_82 : decode cX6_tellsAll 82 = .ok (.iconst 0, 1) := by decide +kernel
theorem dX6_tellsAll_83 : decode cX6_tellsAll 83 = .ok (.ireturn, 1) := by decide +kernel
theorem dX6_tellsAll_84 : decode cX6_tellsAll 84 = .ok (.iinc 3 1, 3) := by decide +kernel
theorem dX6_tellsAll_87 : decode cX6_tellsAll 87 = .ok (.goto (-77), 3) := by decide +kernel
theorem dX6_tellsAll_90 : decode cX6_tellsAll 90 = .ok (.iconst 1, 1) := by decide +kernel
theorem dX6_tellsAll_91 : decode cX6_tellsAll 91 = .ok (.ireturn, 1) := by decide +kernel
theorem dX6_next_0 : decode cX6_next 0 = .ok (.aload_n 0, 1) := by decide +kernel
theorem dX6_next_1 : decode cX6_next 1 = .ok (.invokevirtual 226, 3) := by decide +kernel
theorem dX6_next_4 : decode cX6_next 4 = .ok (.istore_n 1, 1) := by decide +kernel
theorem dX6_next_5 : decode cX6_next 5 = .ok (.iload_n 1, 1) := by decide +kernel
theorem dX6_next_6 : decode cX6_next 6 = .ok (.ifCond .ne 6, 3) := by decide +kernel
theorem dX6_next_9 : decode cX6_next 9 = .ok (.bipush (-4), 2) := by decide +kernel
theorem dX6_next_11 : decode cX6_next 11 = .ok (.ireturn, 1) := by decide +kernel
theorem dX6_next_12 : decode cX6_next 12 = .ok (.bipush (-4), 2) := by decide +kernel
theorem dX6_next_14 : decode cX6_next 14 = .ok (.istore_n 2, 1) := by decide +kernel
theorem dX6_next_15 : decode cX6_next 15 = .ok (.iconst 0, 1) := by decide +kernel
theorem dX6_next_16 : decode cX6_next 16 = .ok (.istore_n 3, 1) := by decide +kernel
theorem dX6_next_17 : decode cX6_next 17 = .ok (.iconst 0, 1) := by decide +kernel
theorem dX6_next_18 : decode cX6_next 18 = .ok (.istore 4, 2) := by decide +kernel
theorem dX6_next_20 : decode cX6_next 20 = .ok (.iload 4, 2) := by decide +kernel
theorem dX6_next_22 : decode cX6_next 22 = .ok (.aload_n 0, 1) := by decide +kernel
theorem dX6_next_23 : decode cX6_next 23 = .ok (.getfield 19, 3) := by decide +kernel
theorem dX6_next_26 : decode cX6_next 26 = .ok (.invokevirtual 174, 3) := by decide +kernel
theorem dX6_next_29 : decode cX6_next 29 = .ok (.if_icmp .ge 36, 3) := by decide +kernel
theorem dX6_next_32 : decode cX6_next 32 = .ok (.aload_n 0, 1) := by decide +kernel
theorem dX6_next_33 : decode cX6_next 33 = .ok (.iload_n 1, 1) := by decide +kernel
theorem dX6_next_34 : decode cX6_next 34 = .ok (.iload 4, 2) := by decide +kernel
theorem dX6_next_36 : decode cX6_next 36 = .ok (.invokevirtual 229, 3) := by decide +kernel
theorem dX6_next_39 : decode cX6_next 39 = .ok (.istore 5, 2) := by decide +kernel
theorem dX6_next_41 : decode cX6_next 41 = .ok (.iload_n 2, 1) := by decide +kernel
theorem dX6_next_42 : decode cX6_next 42 = .ok (.bipush (-4), 2) := by decide +kernel
theorem dX6_next_44 : decode cX6_next 44 = .ok (.if_icmp .eq 9, 3) := by decide +kernel
theorem dX6_next_47 : decode cX6_next 47 = .ok (.iload 5, 2) := by decide +kernel
theorem dX6_next_49 : decode cX6_next 49 = .ok (.iload_n 3, 1) := by decide +kernel
theorem dX6_next_50 : decode cX6_next 50 = .ok (.if_icmp .ge 9, 3) := by decide +kernel
theorem dX6_next_53 : decode cX6_next 53 = .ok (.iload 4, 2) := by decide +kernel
theorem dX6_next_55 : decode cX6_next 55 = .ok (.istore_n 2, 1) := by decide +kernel
theorem dX6_next_56 : decode cX6_next 56 = .ok (.iload 5, 2) := by decide +kernel
theorem dX6_next_58 : decode cX6_next 58 = .ok (.istore_n 3, 1) := by decide +kernel
theorem dX6_next_59 : decode cX6_next 59 = .ok (.iinc 4 1, 3) := by decide +kernel
theorem dX6_next_62 : decode cX6_next 62 = .ok (.goto (-42), 3) := by decide +kernel
theorem dX6_next_65 : decode cX6_next 65 = .ok (.iload_n 2, 1) := by decide +kernel
theorem dX6_next_66 : decode cX6_next 66 = .ok (.ireturn, 1) := by decide +kernel
theorem dX6_mostAlike_0 : decode cX6_mostAlike 0 = .ok (.iconst 0, 1) := by decide +kernel
theorem dX6_mostAlike_1 : decode cX6_mostAlike 1 = .ok (.istore_n 3, 1) := by decide +kernel
theorem dX6_mostAlike_2 : decode cX6_mostAlike 2 = .ok (.iconst 0, 1) := by decide +kernel
theorem dX6_mostAlike_3 : decode cX6_mostAlike 3 = .ok (.istore 4, 2) := by decide +kernel
theorem dX6_mostAlike_5 : decode cX6_mostAlike 5 = .ok (.iload 4, 2) := by decide +kernel
theorem dX6_mostAlike_7 : decode cX6_mostAlike 7 = .ok (.aload_n 0, 1) := by decide +kernel
theorem dX6_mostAlike_8 : decode cX6_mostAlike 8 = .ok (.getfield 19, 3) := by decide +kernel
theorem dX6_mostAlike_11 : decode cX6_mostAlike 11 = .ok (.invokevirtual 174, 3) := by decide +kernel
theorem dX6_mostAlike_14 : decode cX6_mostAlike 14 = .ok (.if_icmp .ge 31, 3) := by decide +kernel
theorem dX6_mostAlike_17 : decode cX6_mostAlike 17 = .ok (.iload_n 1, 1) := by decide +kernel
theorem dX6_mostAlike_18 : decode cX6_mostAlike 18 = .ok (.iload 4, 2) := by decide +kernel
theorem dX6_mostAlike_20 : decode cX6_mostAlike 20 = .ok (.invokestatic 200, 3) := by decide +kernel
theorem dX6_mostAlike_23 : decode cX6_mostAlike 23 = .ok (.ifCond .eq 16, 3) := by decide +kernel
theorem dX6_mostAlike_26 : decode cX6_mostAlike 26 = .ok (.iload_n 3, 1) := by decide +kernel
theorem dX6_mostAlike_27 : decode cX6_mostAlike 27 = .ok (.aload_n 0, 1) := by decide +kernel
theorem dX6_mostAlike_28 : decode cX6_mostAlike 28 = .ok (.iload_n 1, 1) := by decide +kernel
theorem dX6_mostAlike_29 : decode cX6_mostAlike 29 = .ok (.iload 4, 2) := by decide +kernel
theorem dX6_mostAlike_31 : decode cX6_mostAlike 31 = .ok (.iload_n 2, 1) := by decide +kernel
theorem dX6_mostAlike_32 : decode cX6_mostAlike 32 = .ok (.invokevirtual 232, 3) := by decide +kernel
theorem dX6_mostAlike_35 : decode cX6_mostAlike 35 = .ok (.invokestatic 235, 3) := by decide +kernel
theorem dX6_mostAlike_38 : decode cX6_mostAlike 38 = .ok (.istore_n 3, 1) := by decide +kernel
theorem dX6_mostAlike_39 : decode cX6_mostAlike 39 = .ok (.iinc 4 1, 3) := by decide +kernel
theorem dX6_mostAlike_42 : decode cX6_mostAlike 42 = .ok (.goto (-37), 3) := by decide +kernel
theorem dX6_mostAlike_45 : decode cX6_mostAlike 45 = .ok (.iload_n 3, 1) := by decide +kernel
theorem dX6_mostAlike_46 : decode cX6_mostAlike 46 = .ok (.ireturn, 1) := by decide +kernel
theorem dX6_alikeWith_0 : decode cX6_alikeWith 0 = .ok (.iconst 0, 1) := by decide +kernel
theorem dX6_alikeWith_1 : decode cX6_alikeWith 1 = .ok (.istore 4, 2) := by decide +kernel
theorem dX6_alikeWith_3 : decode cX6_alikeWith 3 = .ok (.iconst 0, 1) := by decide +kernel
theorem dX6_alikeWith_4 : decode cX6_alikeWith 4 = .ok (.istore 5, 2) := by decide +kernel
theorem dX6_alikeWith_6 : decode cX6_alikeWith 6 = .ok (.iload 5, 2) := by decide +kernel
theorem dX6_alikeWith_8 : decode cX6_alikeWith 8 = .ok (.aload_n 0, 1) := by decide +kernel
theorem dX6_alikeWith_9 : decode cX6_alikeWith 9 = .ok (.getfield 19, 3) := by decide +kernel
theorem dX6_alikeWith_12 : decode cX6_alikeWith 12 = .ok (.invokevirtual 174, 3) := by decide +kernel
theorem dX6_alikeWith_15 : decode cX6_alikeWith 15 = .ok (.if_icmp .ge 32, 3) := by decide +kernel
theorem dX6_alikeWith_18 : decode cX6_alikeWith 18 = .ok (.iload_n 1, 1) := by decide +kernel
theorem dX6_alikeWith_19 : decode cX6_alikeWith 19 = .ok (.iload 5, 2) := by decide +kernel
theorem dX6_alikeWith_21 : decode cX6_alikeWith 21 = .ok (.invokestatic 200, 3) := by decide +kernel
theorem dX6_alikeWith_24 : decode cX6_alikeWith 24 = .ok (.ifCond .eq 17, 3) := by decide +kernel
theorem dX6_alikeWith_27 : decode cX6_alikeWith 27 = .ok (.aload_n 0, 1) := by decide +kernel
theorem dX6_alikeWith_28 : decode cX6_alikeWith 28 = .ok (.iload_n 2, 1) := by decide +kernel
theorem dX6_alikeWith_29 : decode cX6_alikeWith 29 = .ok (.iload 5, 2) := by decide +kernel
theorem dX6_alikeWith_31 : decode cX6_alikeWith 31 = .ok (.iload_n 3, 1) := by decide +kernel
theorem dX6_alikeWith_32 : decode cX6_alikeWith 32 = .ok (.invokevirtual 240, 3) := by decide +kernel
theorem dX6_alikeWith_35 : decode cX6_alikeWith 35 = .ok (.ifCond .eq 6, 3) := by decide +kernel
theorem dX6_alikeWith_38 : decode cX6_alikeWith 38 = .ok (.iinc 4 1, 3) := by decide +kernel
theorem dX6_alikeWith_41 : decode cX6_alikeWith 41 = .ok (.iinc 5 1, 3) := by decide +kernel
theorem dX6_alikeWith_44 : decode cX6_alikeWith 44 = .ok (.goto (-38), 3) := by decide +kernel
theorem dX6_alikeWith_47 : decode cX6_alikeWith 47 = .ok (.iload 4, 2) := by decide +kernel
theorem dX6_alikeWith_49 : decode cX6_alikeWith 49 = .ok (.ireturn, 1) := by decide +kernel
theorem dX6_tellAlike_0 : decode cX6_tellAlike 0 = .ok (.aload_n 0, 1) := by decide +kernel
theorem dX6_tellAlike_1 : decode cX6_tellAlike 1 = .ok (.getfield 19, 3) := by decide +kernel
theorem dX6_tellAlike_4 : decode cX6_tellAlike 4 = .ok (.invokevirtual 91, 3) := by decide +kernel
theorem dX6_tellAlike_7 : decode cX6_tellAlike 7 = .ok (.astore 4, 2) := by decide +kernel
theorem dX6_tellAlike_9 : decode cX6_tellAlike 9 = .ok (.aload 4, 2) := by decide +kernel
theorem dX6_tellAlike_11 : decode cX6_tellAlike 11 = .ok (.iload_n 1, 1) := by decide +kernel
theorem dX6_tellAlike_12 : decode cX6_tellAlike 12 = .ok (.iload_n 3, 1) := by decide +kernel
theorem dX6_tellAlike_13 : decode cX6_tellAlike 13 = .ok (.invokevirtual 223, 3) := by decide +kernel
theorem dX6_tellAlike_16 : decode cX6_tellAlike 16 = .ok (.istore 5, 2) := by decide +kernel
theorem dX6_tellAlike_18 : decode cX6_tellAlike 18 = .ok (.iload 5, 2) := by decide +kernel
theorem dX6_tellAlike_20 : decode cX6_tellAlike 20 = .ok (.aload 4, 2) := by decide +kernel
theorem dX6_tellAlike_22 : decode cX6_tellAlike 22 = .ok (.iload_n 2, 1) := by decide +kernel
theorem dX6_tellAlike_23 : decode cX6_tellAlike 23 = .ok (.iload_n 3, 1) := by decide +kernel
theorem dX6_tellAlike_24 : decode cX6_tellAlike 24 = .ok (.invokevirtual 223, 3) := by decide +kernel
theorem dX6_tellAlike_27 : decode cX6_tellAlike 27 = .ok (.if_icmp .eq 5, 3) := by decide +kernel
theorem dX6_tellAlike_30 : decode cX6_tellAlike 30 = .ok (.iconst 0, 1) := by decide +kernel
theorem dX6_tellAlike_31 : decode cX6_tellAlike 31 = .ok (.ireturn, 1) := by decide +kernel
theorem dX6_tellAlike_32 : decode cX6_tellAlike 32 = .ok (.iload 5, 2) := by decide +kernel
theorem dX6_tellAlike_34 : decode cX6_tellAlike 34 = .ok (.bipush (-4), 2) := by decide +kernel
theorem dX6_tellAlike_36 : decode cX6_tellAlike 36 = .ok (.if_icmp .eq 20, 3) := by decide +kernel
theorem dX6_tellAlike_39 : decode cX6_tellAlike 39 = .ok (.aload 4, 2) := by decide +kernel
theorem dX6_tellAlike_41 : decode cX6_tellAlike 41 = .ok (.iload_n 1, 1) := by decide +kernel
theorem dX6_tellAlike_42 : decode cX6_tellAlike 42 = .ok (.iload_n 3, 1) := by decide +kernel
theorem dX6_tellAlike_43 : decode cX6_tellAlike 43 = .ok (.invokevirtual 209, 3) := by decide +kernel
theorem dX6_tellAlike_46 : decode cX6_tellAlike 46 = .ok (.aload 4, 2) := by decide +kernel
theorem dX6_tellAlike_48 : decode cX6_tellAlike 48 = .ok (.iload_n 2, 1) := by decide +kernel
theorem dX6_tellAlike_49 : decode cX6_tellAlike 49 = .ok (.iload_n 3, 1) := by decide +kernel
theorem dX6_tellAlike_50 : decode cX6_tellAlike 50 = .ok (.invokevirtual 209, 3) := by decide +kernel
theorem dX6_tellAlike_53 : decode cX6_tellAlike 53 = .ok (.if_icmp .ne 7, 3) := by decide +kernel
theorem dX6_tellAlike_56 : decode cX6_tellAlike 56 = .ok (.iconst 1, 1) := by decide +kernel
theorem dX6_tellAlike_57 : decode cX6_tellAlike 57 = .ok (.goto 4, 3) := by decide +kernel
theorem dX6_tellAlike_60 : decode cX6_tellAlike 60 = .ok (.iconst 0, 1) := by decide +kernel
theorem dX6_tellAlike_61 : decode cX6_tellAlike 61 = .ok (.ireturn, 1) := by decide +kernel
theorem dX6_seen_0 : decode cX6_seen 0 = .ok (.aload_n 0, 1) := by decide +kernel
theorem dX6_seen_1 : decode cX6_seen 1 = .ok (.getfield 19, 3) := by decide +kernel
theorem dX6_seen_4 : decode cX6_seen 4 = .ok (.iload_n 1, 1) := by decide +kernel
theorem dX6_seen_5 : decode cX6_seen 5 = .ok (.invokevirtual 101, 3) := by decide +kernel
theorem dX6_seen_8 : decode cX6_seen 8 = .ok (.ifCond .eq 25, 3) := by decide +kernel
theorem dX6_seen_11 : decode cX6_seen 11 = .ok (.aload_n 0, 1) := by decide +kernel
theorem dX6_seen_12 : decode cX6_seen 12 = .ok (.getfield 19, 3) := by decide +kernel
theorem dX6_seen_15 : decode cX6_seen 15 = .ok (.iload_n 2, 1) := by decide +kernel
theorem dX6_seen_16 : decode cX6_seen 16 = .ok (.invokevirtual 114, 3) := by decide +kernel
theorem dX6_seen_19 : decode cX6_seen 19 = .ok (.ifCond .eq 14, 3) := by decide +kernel
theorem dX6_seen_22 : decode cX6_seen 22 = .ok (.aload_n 0, 1) := by decide +kernel
theorem dX6_seen_23 : decode cX6_seen 23 = .ok (.getfield 19, 3) := by decide +kernel
theorem dX6_seen_26 : decode cX6_seen 26 = .ok (.iload_n 3, 1) := by decide +kernel
theorem dX6_seen_27 : decode cX6_seen 27 = .ok (.invokevirtual 114, 3) := by decide +kernel
theorem dX6_seen_30 : decode cX6_seen 30 = .ok (.ifCond .ne 5, 3) := by decide +kernel
theorem dX6_seen_33 : decode cX6_seen 33 = .ok (.iconst (-1), 1) := by decide +kernel
theorem dX6_seen_34 : decode cX6_seen 34 = .ok (.ireturn, 1) := by decide +kernel
theorem dX6_seen_35 : decode cX6_seen 35 = .ok (.aload_n 0, 1) := by decide +kernel
theorem dX6_seen_36 : decode cX6_seen 36 = .ok (.getfield 45, 3) := by decide +kernel
theorem dX6_seen_39 : decode cX6_seen 39 = .ok (.iload_n 1, 1) := by decide +kernel
theorem dX6_seen_40 : decode cX6_seen 40 = .ok (.iload_n 2, 1) := by decide +kernel
theorem dX6_seen_41 : decode cX6_seen 41 = .ok (.iload_n 3, 1) := by decide +kernel
theorem dX6_seen_42 : decode cX6_seen 42 = .ok (.invokevirtual 212, 3) := by decide +kernel
theorem dX6_seen_45 : decode cX6_seen 45 = .ok (.ireturn, 1) := by decide +kernel
theorem dX6_kinds_0 : decode cX6_kinds 0 = .ok (.aload_n 0, 1) := by decide +kernel
theorem dX6_kinds_1 : decode cX6_kinds 1 = .ok (.getfield 19, 3) := by decide +kernel
theorem dX6_kinds_4 : decode cX6_kinds 4 = .ok (.iload_n 1, 1) := by decide +kernel
theorem dX6_kinds_5 : decode cX6_kinds 5 = .ok (.invokevirtual 101, 3) := by decide +kernel
theorem dX6_kinds_8 : decode cX6_kinds 8 = .ok (.ifCond .ne 5, 3) := by decide +kernel
theorem dX6_kinds_11 : decode cX6_kinds 11 = .ok (.iconst (-1), 1) := by decide +kernel
theorem dX6_kinds_12 : decode cX6_kinds 12 = .ok (.ireturn, 1) := by decide +kernel
theorem dX6_kinds_13 : decode cX6_kinds 13 = .ok (.aload_n 0, 1) := by decide +kernel
theorem dX6_kinds_14 : decode cX6_kinds 14 = .ok (.getfield 23, 3) := by decide +kernel
theorem dX6_kinds_17 : decode cX6_kinds 17 = .ok (.aload_n 0, 1) := by decide +kernel
theorem dX6_kinds_18 : decode cX6_kinds 18 = .ok (.getfield 19, 3) := by decide +kernel
theorem dX6_kinds_21 : decode cX6_kinds 21 = .ok (.invokevirtual 80, 3) := by decide +kernel
theorem dX6_kinds_24 : decode cX6_kinds 24 = .ok (.iconst 0, 1) := by decide +kernel
theorem dX6_kinds_25 : decode cX6_kinds 25 = .ok (.istore_n 2, 1) := by decide +kernel
theorem dX6_kinds_26 : decode cX6_kinds 26 = .ok (.iconst 0, 1) := by decide +kernel
theorem dX6_kinds_27 : decode cX6_kinds 27 = .ok (.istore_n 3, 1) := by decide +kernel
theorem dX6_kinds_28 : decode cX6_kinds 28 = .ok (.iload_n 3, 1) := by decide +kernel
theorem dX6_kinds_29 : decode cX6_kinds 29 = .ok (.iconst 4, 1) := by decide +kernel
theorem dX6_kinds_30 : decode cX6_kinds 30 = .ok (.if_icmp .ge 32, 3) := by decide +kernel
theorem dX6_kinds_33 : decode cX6_kinds 33 = .ok (.aload_n 0, 1) := by decide +kernel
theorem dX6_kinds_34 : decode cX6_kinds 34 = .ok (.getfield 23, 3) := by decide +kernel
theorem dX6_kinds_37 : decode cX6_kinds 37 = .ok (.iload_n 1, 1) := by decide +kernel
theorem dX6_kinds_38 : decode cX6_kinds 38 = .ok (.iload_n 3, 1) := by decide +kernel
theorem dX6_kinds_39 : decode cX6_kinds 39 = .ok (.invokevirtual 244, 3) := by decide +kernel
theorem dX6_kinds_42 : decode cX6_kinds 42 = .ok (.aload_n 0, 1) := by decide +kernel
theorem dX6_kinds_43 : decode cX6_kinds 43 = .ok (.iload_n 1, 1) := by decide +kernel
theorem dX6_kinds_44 : decode cX6_kinds 44 = .ok (.invokevirtual 247, 3) := by decide +kernel
theorem dX6_kinds_47 : decode cX6_kinds 47 = .ok (.ifCond .eq 9, 3) := by decide +kernel
theorem dX6_kinds_50 : decode cX6_kinds 50 = .ok (.iload_n 2, 1) := by decide +kernel
theorem dX6_kinds_51 : decode cX6_kinds 51 = .ok (.iconst 1, 1) := by decide +kernel
theorem dX6_kinds_52 : decode cX6_kinds 52 = .ok (.iload_n 3, 1) := by decide +kernel
theorem dX6_kinds_53 : decode cX6_kinds 53 = .ok (.ishl, 1) := by decide +kernel
theorem dX6_kinds_54 : decode cX6_kinds 54 = .ok (.ior, 1) := by decide +kernel
theorem dX6_kinds_55 : decode cX6_kinds 55 = .ok (.istore_n 2, 1) := by decide +kernel
theorem dX6_kinds_56 : decode cX6_kinds 56 = .ok (.iinc 3 1, 3) := by decide +kernel
theorem dX6_kinds_59 : decode cX6_kinds 59 = .ok (.goto (-31), 3) := by decide +kernel
theorem dX6_kinds_62 : decode cX6_kinds 62 = .ok (.iload_n 2, 1) := by decide +kernel
theorem dX6_kinds_63 : decode cX6_kinds 63 = .ok (.ireturn, 1) := by decide +kernel
theorem dX6_fitsSightings_0 : decode cX6_fitsSightings 0 = .ok (.iconst 0, 1) := by decide +kernel
theorem dX6_fitsSightings_1 : decode cX6_fitsSightings 1 = .ok (.istore_n 2, 1) := by decide +kernel
theorem dX6_fitsSightings_2 : decode cX6_fitsSightings 2 = .ok (.iload_n 2, 1) := by decide +kernel
theorem dX6_fitsSightings_3 : decode cX6_fitsSightings 3 = .ok (.aload_n 0, 1) := by decide +kernel
theorem dX6_fitsSightings_4 : decode cX6_fitsSightings 4 = .ok (.getfield 45, 3) := by decide +kernel
theorem dX6_fitsSightings_7 : decode cX6_fitsSightings 7 = .ok (.invokevirtual 219, 3) := by decide +kernel
theorem dX6_fitsSightings_10 : decode cX6_fitsSightings 10 = .ok (.if_icmp .ge 63, 3) := by decide +kernel
theorem dX6_fitsSightings_13 : decode cX6_fitsSightings 13 = .ok (.aload_n 0, 1) := by decide +kernel
theorem dX6_fitsSightings_14 : decode cX6_fitsSightings 14 = .ok (.getfield 45, 3) := by decide +kernel
theorem dX6_fitsSightings_17 : decode cX6_fitsSightings 17 = .ok (.iload_n 2, 1) := by decide +kernel
theorem dX6_fitsSightings_18 : decode cX6_fitsSightings 18 = .ok (.iconst 0, 1) := by decide +kernel
theorem dX6_fitsSightings_19 : decode cX6_fitsSightings 19 = .ok (.invokevirtual 220, 3) := by decide +kernel
theorem dX6_fitsSightings_22 : decode cX6_fitsSightings 22 = .ok (.iload_n 1, 1) := by decide +kernel
theorem dX6_fitsSightings_23 : decode cX6_fitsSightings 23 = .ok (.if_icmp .ne 7, 3) := by decide +kernel
theorem dX6_fitsSightings_26 : decode cX6_fitsSightings 26 = .ok (.iconst 1, 1) := by decide +kernel
theorem dX6_fitsSightings_27 : decode cX6_fitsSightings 27 = .ok (.goto 4, 3) := by decide +kernel
theorem dX6_fitsSightings_30 : decode cX6_fitsSightings 30 = .ok (.iconst 0, 1) := by decide +kernel
theorem dX6_fitsSightings_31 : decode cX6_fitsSightings 31 = .ok (.istore_n 3, 1) := by decide +kernel
theorem dX6_fitsSightings_32 : decode cX6_fitsSightings 32 = .ok (.iload_n 3, 1) := by decide +kernel
theorem dX6_fitsSightings_33 : decode cX6_fitsSightings 33 = .ok (.ifCond .eq 34, 3) := by decide +kernel
theorem dX6_fitsSightings_36 : decode cX6_fitsSightings 36 = .ok (.aload_n 0, 1) := by decide +kernel
theorem dX6_fitsSightings_37 : decode cX6_fitsSightings 37 = .ok (.getfield 23, 3) := by decide +kernel
theorem dX6_fitsSightings_40 : decode cX6_fitsSightings 40 = .ok (.iload_n 1, 1) := by decide +kernel
theorem dX6_fitsSightings_41 : decode cX6_fitsSightings 41 = .ok (.aload_n 0, 1) := by decide +kernel
theorem dX6_fitsSightings_42 : decode cX6_fitsSightings 42 = .ok (.getfield 45, 3) := by decide +kernel
theorem dX6_fitsSightings_45 : decode cX6_fitsSightings 45 = .ok (.iload_n 2, 1) := by decide +kernel
theorem dX6_fitsSightings_46 : decode cX6_fitsSightings 46 = .ok (.iconst 1, 1) := by decide +kernel
theorem dX6_fitsSightings_47 : decode cX6_fitsSightings 47 = .ok (.invokevirtual 220, 3) := by decide +kernel
theorem dX6_fitsSightings_50 : decode cX6_fitsSightings 50 = .ok (.invokevirtual 123, 3) := by decide +kernel
theorem dX6_fitsSightings_53 : decode cX6_fitsSightings 53 = .ok (.aload_n 0, 1) := by decide +kernel
theorem dX6_fitsSightings_54 : decode cX6_fitsSightings 54 = .ok (.getfield 45, 3) := by decide +kernel
theorem dX6_fitsSightings_57 : decode cX6_fitsSightings 57 = .ok (.iload_n 2, 1) := by decide +kernel
theorem dX6_fitsSightings_58 : decode cX6_fitsSightings 58 = .ok (.iconst 2, 1) := by decide +kernel
theorem dX6_fitsSightings_59 : decode cX6_fitsSightings 59 = .ok (.invokevirtual 220, 3) := by decide +kernel
theorem dX6_fitsSightings_62 : decode cX6_fitsSightings 62 = .ok (.if_icmp .eq 5, 3) := by decide +kernel
theorem dX6_fitsSightings_65 : decode cX6_fitsSightings 65 = .ok (.iconst 0, 1) := by decide +kernel
theorem dX6_fitsSightings_66 : decode cX6_fitsSightings 66 = .ok (.ireturn, 1) := by decide +kernel
theorem dX6_fitsSightings_67 : decode cX6_fitsSightings 67 = .ok (.iinc 2 1, 3) := by decide +kernel
theorem dX6_fitsSightings_70 : decode cX6_fitsSightings 70 = .ok (.goto (-68), 3) := by decide +kernel
theorem dX6_fitsSightings_73 : decode cX6_fitsSightings 73 = .ok (.iconst 1, 1) := by decide +kernel
theorem dX6_fitsSightings_74 : decode cX6_fitsSightings 74 = .ok (.ireturn, 1) := by decide +kernel
theorem dX6_forget_0 : decode cX6_forget 0 = .ok (.aload_n 0, 1) := by decide +kernel
theorem dX6_forget_1 : decode cX6_forget 1 = .ok (.getfield 41, 3) := by decide +kernel
theorem dX6_forget_4 : decode cX6_forget 4 = .ok (.invokevirtual 86, 3) := by decide +kernel
theorem dX6_forget_7 : decode cX6_forget 7 = .ok (.aload_n 0, 1) := by decide +kernel
theorem dX6_forget_8 : decode cX6_forget 8 = .ok (.getfield 45, 3) := by decide +kernel
theorem dX6_forget_11 : decode cX6_forget 11 = .ok (.invokevirtual 86, 3) := by decide +kernel
theorem dX6_forget_14 : decode cX6_forget 14 = .ok (.iadd, 1) := by decide +kernel
theorem dX6_forget_15 : decode cX6_forget 15 = .ok (.ireturn, 1) := by decide +kernel
theorem dX6_likely_0 : decode cX6_likely 0 = .ok (.aload_n 0, 1) := by decide +kernel
theorem dX6_likely_1 : decode cX6_likely 1 = .ok (.getfield 19, 3) := by decide +kernel
theorem dX6_likely_4 : decode cX6_likely 4 = .ok (.iload_n 1, 1) := by decide +kernel
theorem dX6_likely_5 : decode cX6_likely 5 = .ok (.invokevirtual 126, 3) := by decide +kernel
theorem dX6_likely_8 : decode cX6_likely 8 = .ok (.ifCond .eq 22, 3) := by decide +kernel
theorem dX6_likely_11 : decode cX6_likely 11 = .ok (.iload_n 2, 1) := by decide +kernel
theorem dX6_likely_12 : decode cX6_likely 12 = .ok (.ifCond .lt 18, 3) := by decide +kernel
theorem dX6_likely_15 : decode cX6_likely 15 = .ok (.iload_n 2, 1) := by decide +kernel
theorem dX6_likely_16 : decode cX6_likely 16 = .ok (.bipush 10, 2) := by decide +kernel
theorem dX6_likely_18 : decode cX6_likely 18 = .ok (.if_icmp .gt 12, 3) := by decide +kernel
theorem dX6_likely_21 : decode cX6_likely 21 = .ok (.iload_n 3, 1) := by decide +kernel
theorem dX6_likely_22 : decode cX6_likely 22 = .ok (.ifCond .lt 8, 3) := by decide +kernel
theorem dX6_likely_25 : decode cX6_likely 25 = .ok (.iload_n 3, 1) := by decide +kernel
theorem dX6_likely_26 : decode cX6_likely 26 = .ok (.iconst 1, 1) := by decide +kernel
theorem dX6_likely_27 : decode cX6_likely 27 = .ok (.if_icmp .le 5, 3) := by decide +kernel
theorem dX6_likely_30 : decode cX6_likely 30 = .ok (.iconst (-1), 1) := by decide +kernel
theorem dX6_likely_31 : decode cX6_likely 31 = .ok (.ireturn, 1) := by decide +kernel
theorem dX6_likely_32 : decode cX6_likely 32 = .ok (.iconst 0, 1) := by decide +kernel
theorem dX6_likely_33 : decode cX6_likely 33 = .ok (.istore 4, 2) := by decide +kernel
theorem dX6_likely_35 : decode cX6_likely 35 = .ok (.iconst 0, 1) := by decide +kernel
theorem dX6_likely_36 : decode cX6_likely 36 = .ok (.istore 5, 2) := by decide +kernel
theorem dX6_likely_38 : decode cX6_likely 38 = .ok (.iconst 1, 1) := by decide +kernel
theorem dX6_likely_39 : decode cX6_likely 39 = .ok (.aload_n 0, 1) := by decide +kernel
theorem dX6_likely_40 : decode cX6_likely 40 = .ok (.getfield 19, 3) := by decide +kernel
theorem dX6_likely_43 : decode cX6_likely 43 = .ok (.invokevirtual 74, 3) := by decide +kernel
theorem dX6_likely_46 : decode cX6_likely 46 = .ok (.ishl, 1) := by decide +kernel
theorem dX6_likely_47 : decode cX6_likely 47 = .ok (.istore 6, 2) := by decide +kernel
theorem dX6_likely_49 : decode cX6_likely 49 = .ok (.iconst 0, 1) := by decide +kernel
theorem dX6_likely_50 : decode cX6_likely 50 = .ok (.istore 7, 2) := by decide +kernel
theorem dX6_likely_52 : decode cX6_likely 52 = .ok (.iload 7, 2) := by decide +kernel
theorem dX6_likely_54 : decode cX6_likely 54 = .ok (.iload 6, 2) := by decide +kernel
theorem dX6_likely_56 : decode cX6_likely 56 = .ok (.if_icmp .ge 59, 3) := by decide +kernel
theorem dX6_likely_59 : decode cX6_likely 59 = .ok (.aload_n 0, 1) := by decide +kernel
theorem dX6_likely_60 : decode cX6_likely 60 = .ok (.getfield 19, 3) := by decide +kernel
theorem dX6_likely_63 : decode cX6_likely 63 = .ok (.iload 7, 2) := by decide +kernel
theorem dX6_likely_65 : decode cX6_likely 65 = .ok (.invokevirtual 192, 3) := by decide +kernel
theorem dX6_likely_68 : decode cX6_likely 68 = .ok (.ifCond .eq 41, 3) := by decide +kernel
theorem dX6_likely_71 : decode cX6_likely 71 = .ok (.aload_n 0, 1) := by decide +kernel
theorem dX6_likely_72 : decode cX6_likely 72 = .ok (.iload 7, 2) := by decide +kernel
theorem dX6_likely_74 : decode cX6_likely 74 = .ok (.iload_n 2, 1) := by decide +kernel
theorem dX6_likely_75 : decode cX6_likely 75 = .ok (.invokevirtual 250, 3) := by decide +kernel
theorem dX6_likely_78 : decode cX6_likely 78 = .ok (.istore 8, 2) := by decide +kernel
theorem dX6_likely_80 : decode cX6_likely 80 = .ok (.iload 5, 2) := by decide +kernel
theorem dX6_likely_82 : decode cX6_likely 82 = .ok (.iload 8, 2) := by decide +kernel
theorem dX6_likely_84 : decode cX6_likely 84 = .ok (.iadd, 1) := by decide +kernel
theorem dX6_likely_85 : decode cX6_likely 85 = .ok (.istore 5, 2) := by decide +kernel
theorem dX6_likely_87 : decode cX6_likely 87 = .ok (.iload 8, 2) := by decide +kernel
theorem dX6_likely_89 : decode cX6_likely 89 = .ok (.ifCond .le 20, 3) := by decide +kernel
theorem dX6_likely_92 : decode cX6_likely 92 = .ok (.aload_n 0, 1) := by decide +kernel
theorem dX6_likely_93 : decode cX6_likely 93 = .ok (.iload_n 1, 1) := by decide +kernel
theorem dX6_likely_94 : decode cX6_likely 94 = .ok (.iload 7, 2) := by decide +kernel
theorem dX6_likely_96 : decode cX6_likely 96 = .ok (.invokevirtual 253, 3) := by decide +kernel
theorem dX6_likely_99 : decode cX6_likely 99 = .ok (.ifCond .eq 10, 3) := by decide +kernel
theorem dX6_likely_102 : decode cX6_likely 102 = .ok (.iload 4, 2) := by decide +kernel
theorem dX6_likely_104 : decode cX6_likely 104 = .ok (.iload 8, 2) := by decide +kernel
theorem dX6_likely_106 : decode cX6_likely 106 = .ok (.iadd, 1) := by decide +kernel
theorem dX6_likely_107 : decode cX6_likely 107 = .ok (.istore 4, 2) := by decide +kernel
theorem dX6_likely_109 : decode cX6_likely 109 = .ok (.iinc 7 1, 3) := by decide +kernel
theorem dX6_likely_112 : decode cX6_likely 112 = .ok (.goto (-60), 3) := by decide +kernel
theorem dX6_likely_115 : decode cX6_likely 115 = .ok (.iload 4, 2) := by decide +kernel
theorem dX6_likely_117 : decode cX6_likely 117 = .ok (.iload 5, 2) := by decide +kernel
theorem dX6_likely_119 : decode cX6_likely 119 = .ok (.invokestatic 256, 3) := by decide +kernel
theorem dX6_likely_122 : decode cX6_likely 122 = .ok (.istore 7, 2) := by decide +kernel
theorem dX6_likely_124 : decode cX6_likely 124 = .ok (.iload 7, 2) := by decide +kernel
theorem dX6_likely_126 : decode cX6_likely 126 = .ok (.iconst 1, 1) := by decide +kernel
theorem dX6_likely_127 : decode cX6_likely 127 = .ok (.if_icmp .ge 5, 3) := by decide +kernel
theorem dX6_likely_130 : decode cX6_likely 130 = .ok (.iconst (-1), 1) := by decide +kernel
theorem dX6_likely_131 : decode cX6_likely 131 = .ok (.ireturn, 1) := by decide +kernel
theorem dX6_likely_132 : decode cX6_likely 132 = .ok (.iload_n 3, 1) := by decide +kernel
theorem dX6_likely_133 : decode cX6_likely 133 = .ok (.ifCond .ne 11, 3) := by decide +kernel
theorem dX6_likely_136 : decode cX6_likely 136 = .ok (.iload 4, 2) := by decide +kernel
theorem dX6_likely_138 : decode cX6_likely 138 = .ok (.iload 7, 2) := by decide +kernel
theorem dX6_likely_140 : decode cX6_likely 140 = .ok (.idiv, 1) := by decide +kernel
theorem dX6_likely_141 : decode cX6_likely 141 = .ok (.goto 8, 3) := by decide +kernel
theorem dX6_likely_144 : decode cX6_likely 144 = .ok (.iload 5, 2) := by decide +kernel
theorem dX6_likely_146 : decode cX6_likely 146 = .ok (.iload 7, 2) := by decide +kernel
theorem dX6_likely_148 : decode cX6_likely 148 = .ok (.idiv, 1) := by decide +kernel
theorem dX6_likely_149 : decode cX6_likely 149 = .ok (.ireturn, 1) := by decide +kernel
theorem dX6_weightOf_0 : decode cX6_weightOf 0 = .ok (.iconst 1, 1) := by decide +kernel
theorem dX6_weightOf_1 : decode cX6_weightOf 1 = .ok (.istore_n 3, 1) := by decide +kernel
theorem dX6_weightOf_2 : decode cX6_weightOf 2 = .ok (.iconst 0, 1) := by decide +kernel
theorem dX6_weightOf_3 : decode cX6_weightOf 3 = .ok (.istore 4, 2) := by decide +kernel
theorem dX6_weightOf_5 : decode cX6_weightOf 5 = .ok (.iload 4, 2) := by decide +kernel
theorem dX6_weightOf_7 : decode cX6_weightOf 7 = .ok (.aload_n 0, 1) := by decide +kernel
theorem dX6_weightOf_8 : decode cX6_weightOf 8 = .ok (.getfield 19, 3) := by decide +kernel
theorem dX6_weightOf_11 : decode cX6_weightOf 11 = .ok (.invokevirtual 74, 3) := by decide +kernel
theorem dX6_weightOf_14 : decode cX6_weightOf 14 = .ok (.if_icmp .ge 41, 3) := by decide +kernel
theorem dX6_weightOf_17 : decode cX6_weightOf 17 = .ok (.aload_n 0, 1) := by decide +kernel
theorem dX6_weightOf_18 : decode cX6_weightOf 18 = .ok (.getfield 19, 3) := by decide +kernel
theorem dX6_weightOf_21 : decode cX6_weightOf 21 = .ok (.iload 4, 2) := by decide +kernel
theorem dX6_weightOf_23 : decode cX6_weightOf 23 = .ok (.invokevirtual 154, 3) := by decide +kernel
theorem dX6_weightOf_26 : decode cX6_weightOf 26 = .ok (.ifCond .ne 23, 3) := by decide +kernel
theorem dX6_weightOf_29 : decode cX6_weightOf 29 = .ok (.iload_n 3, 1) := by decide +kernel
theorem dX6_weightOf_30 : decode cX6_weightOf 30 = .ok (.iload_n 1, 1) := by decide +kernel
theorem dX6_weightOf_31 : decode cX6_weightOf 31 = .ok (.iload 4, 2) := by decide +kernel
theorem dX6_weightOf_33 : decode cX6_weightOf 33 = .ok (.invokestatic 200, 3) := by decide +kernel
theorem dX6_weightOf_36 : decode cX6_weightOf 36 = .ok (.ifCond .eq 7, 3) := by decide +kernel
theorem dX6_weightOf_39 : decode cX6_weightOf 39 = .ok (.iload_n 2, 1) := by decide +kernel
theorem dX6_weightOf_40 : decode cX6_weightOf 40 = .ok (.goto 7, 3) := by decide +kernel
theorem dX6_weightOf_43 : decode cX6_weightOf 43 = .ok (.bipush 10, 2) := by decide +kernel
theorem dX6_weightOf_45 : decode cX6_weightOf 45 = .ok (.iload_n 2, 1) := by decide +kernel
theorem dX6_weightOf_46 : decode cX6_weightOf 46 = .ok (.isub, 1) := by decide +kernel
theorem dX6_weightOf_47 : decode cX6_weightOf 47 = .ok (.imul, 1) := by decide +kernel
theorem dX6_weightOf_48 : decode cX6_weightOf 48 = .ok (.istore_n 3, 1) := by decide +kernel
theorem dX6_weightOf_49 : decode cX6_weightOf 49 = .ok (.iinc 4 1, 3) := by decide +kernel
theorem dX6_weightOf_52 : decode cX6_weightOf 52 = .ok (.goto (-47), 3) := by decide +kernel
theorem dX6_weightOf_55 : decode cX6_weightOf 55 = .ok (.iload_n 3, 1) := by decide +kernel
theorem dX6_weightOf_56 : decode cX6_weightOf 56 = .ok (.ireturn, 1) := by decide +kernel
theorem dX6_comesTwisted_0 : decode cX6_comesTwisted 0 = .ok (.aload_n 0, 1) := by decide +kernel
theorem dX6_comesTwisted_1 : decode cX6_comesTwisted 1 = .ok (.getfield 23, 3) := by decide +kernel
theorem dX6_comesTwisted_4 : decode cX6_comesTwisted 4 = .ok (.aload_n 0, 1) := by decide +kernel
theorem dX6_comesTwisted_5 : decode cX6_comesTwisted 5 = .ok (.getfield 19, 3) := by decide +kernel
theorem dX6_comesTwisted_8 : decode cX6_comesTwisted 8 = .ok (.invokevirtual 80, 3) := by decide +kernel
theorem dX6_comesTwisted_11 : decode cX6_comesTwisted 11 = .ok (.aload_n 0, 1) := by decide +kernel
theorem dX6_comesTwisted_12 : decode cX6_comesTwisted 12 = .ok (.getfield 23, 3) := by decide +kernel
theorem dX6_comesTwisted_15 : decode cX6_comesTwisted 15 = .ok (.iload_n 2, 1) := by decide +kernel
theorem dX6_comesTwisted_16 : decode cX6_comesTwisted 16 = .ok (.invokevirtual 259, 3) := by decide +kernel
theorem dX6_comesTwisted_19 : decode cX6_comesTwisted 19 = .ok (.aload_n 0, 1) := by decide +kernel
theorem dX6_comesTwisted_20 : decode cX6_comesTwisted 20 = .ok (.getfield 23, 3) := by decide +kernel
theorem dX6_comesTwisted_23 : decode cX6_comesTwisted 23 = .ok (.bipush 40, 2) := by decide +kernel
theorem dX6_comesTwisted_25 : decode cX6_comesTwisted 25 = .ok (.invokevirtual 144, 3) := by decide +kernel
theorem dX6_comesTwisted_28 : decode cX6_comesTwisted 28 = .ok (.aload_n 0, 1) := by decide +kernel
theorem dX6_comesTwisted_29 : decode cX6_comesTwisted 29 = .ok (.getfield 23, 3) := by decide +kernel
theorem dX6_comesTwisted_32 : decode cX6_comesTwisted 32 = .ok (.iload_n 1, 1) := by decide +kernel
theorem dX6_comesTwisted_33 : decode cX6_comesTwisted 33 = .ok (.invokevirtual 135, 3) := by decide +kernel
theorem dX6_comesTwisted_36 : decode cX6_comesTwisted 36 = .ok (.ireturn, 1) := by decide +kernel
theorem dX6_commonPart_0 : decode cX6_commonPart 0 = .ok (.iload_n 1, 1) := by decide +kernel
theorem dX6_commonPart_1 : decode cX6_commonPart 1 = .ok (.istore_n 2, 1) := by decide +kernel
theorem dX6_commonPart_2 : decode cX6_commonPart 2 = .ok (.iload_n 0, 1) := by decide +kernel
theorem dX6_commonPart_3 : decode cX6_commonPart 3 = .ok (.istore_n 3, 1) := by decide +kernel
theorem dX6_commonPart_4 : decode cX6_commonPart 4 = .ok (.iconst 0, 1) := by decide +kernel
theorem dX6_commonPart_5 : decode cX6_commonPart 5 = .ok (.istore 4, 2) := by decide +kernel
theorem dX6_commonPart_7 : decode cX6_commonPart 7 = .ok (.iload 4, 2) := by decide +kernel
theorem dX6_commonPart_9 : decode cX6_commonPart 9 = .ok (.bipush 64, 2) := by decide +kernel
theorem dX6_commonPart_11 : decode cX6_commonPart 11 = .ok (.if_icmp .ge 23, 3) := by decide +kernel
theorem dX6_commonPart_14 : decode cX6_commonPart 14 = .ok (.iload_n 3, 1) := by decide +kernel
theorem dX6_commonPart_15 : decode cX6_commonPart 15 = .ok (.ifCond .le 19, 3) := by decide +kernel
theorem dX6_commonPart_18 : decode cX6_commonPart 18 = .ok (.iload_n 2, 1) := by decide +kernel
theorem dX6_commonPart_19 : decode cX6_commonPart 19 = .ok (.iload_n 3, 1) := by decide +kernel
theorem dX6_commonPart_20 : decode cX6_commonPart 20 = .ok (.irem, 1) := by decide +kernel
theorem dX6_commonPart_21 : decode cX6_commonPart 21 = .ok (.istore 5, 2) := by decide +kernel
theorem dX6_commonPart_23 : decode cX6_commonPart 23 = .ok (.iload_n 3, 1) := by decide +kernel
theorem dX6_commonPart_24 : decode cX6_commonPart 24 = .ok (.istore_n 2, 1) := by decide +kernel
theorem dX6_commonPart_25 : decode cX6_commonPart 25 = .ok (.iload 5, 2) := by decide +kernel
theorem dX6_commonPart_27 : decode cX6_commonPart 27 = .ok (.istore_n 3, 1) := by decide +kernel
theorem dX6_commonPart_28 : decode cX6_commonPart 28 = .ok (.iinc 4 1, 3) := by decide +kernel
theorem dX6_commonPart_31 : decode cX6_commonPart 31 = .ok (.goto (-24), 3) := by decide +kernel
theorem dX6_commonPart_34 : decode cX6_commonPart 34 = .ok (.iload_n 2, 1) := by decide +kernel
theorem dX6_commonPart_35 : decode cX6_commonPart 35 = .ok (.ireturn, 1) := by decide +kernel
theorem dX6_century_0 : decode cX6_century 0 = .ok (.iload_n 1, 1) := by decide +kernel
theorem dX6_century_1 : decode cX6_century 1 = .ok (.ifCond .lt 30, 3) := by decide +kernel
theorem dX6_century_4 : decode cX6_century 4 = .ok (.iload_n 1, 1) := by decide +kernel
theorem dX6_century_5 : decode cX6_century 5 = .ok (.sipush 9999, 3) := by decide +kernel
theorem dX6_century_8 : decode cX6_century 8 = .ok (.if_icmp .gt 23, 3) := by decide +kernel
theorem dX6_century_11 : decode cX6_century 11 = .ok (.iload_n 2, 1) := by decide +kernel
theorem dX6_century_12 : decode cX6_century 12 = .ok (.iconst 1, 1) := by decide +kernel
theorem dX6_century_13 : decode cX6_century 13 = .ok (.if_icmp .lt 18, 3) := by decide +kernel
theorem dX6_century_16 : decode cX6_century 16 = .ok (.iload_n 2, 1) := by decide +kernel
theorem dX6_century_17 : decode cX6_century 17 = .ok (.bipush 60, 2) := by decide +kernel
theorem dX6_century_19 : decode cX6_century 19 = .ok (.if_icmp .gt 12, 3) := by decide +kernel
theorem dX6_century_22 : decode cX6_century 22 = .ok (.iload_n 3, 1) := by decide +kernel
theorem dX6_century_23 : decode cX6_century 23 = .ok (.ifCond .lt 8, 3) := by decide +kernel
theorem dX6_century_26 : decode cX6_century 26 = .ok (.iload_n 3, 1) := by decide +kernel
theorem dX6_century_27 : decode cX6_century 27 = .ok (.iconst 2, 1) := by decide +kernel
theorem dX6_century_28 : decode cX6_century 28 = .ok (.if_icmp .le 5, 3) := by decide +kernel
theorem dX6_century_31 : decode cX6_century 31 = .ok (.iconst (-1), 1) := by decide +kernel
theorem dX6_century_32 : decode cX6_century 32 = .ok (.ireturn, 1) := by decide +kernel
theorem dX6_century_33 : decode cX6_century 33 = .ok (.aload_n 0, 1) := by decide +kernel
theorem dX6_century_34 : decode cX6_century 34 = .ok (.getfield 23, 3) := by decide +kernel
theorem dX6_century_37 : decode cX6_century 37 = .ok (.aload_n 0, 1) := by decide +kernel
theorem dX6_century_38 : decode cX6_century 38 = .ok (.getfield 19, 3) := by decide +kernel
theorem dX6_century_41 : decode cX6_century 41 = .ok (.invokevirtual 80, 3) := by decide +kernel
theorem dX6_century_44 : decode cX6_century 44 = .ok (.iconst 0, 1) := by decide +kernel
theorem dX6_century_45 : decode cX6_century 45 = .ok (.istore 4, 2) := by decide +kernel
theorem dX6_century_47 : decode cX6_century 47 = .ok (.iload 4, 2) := by decide +kernel
theorem dX6_century_49 : decode cX6_century 49 = .ok (.iload_n 2, 1) := by decide +kernel
theorem dX6_century_50 : decode cX6_century 50 = .ok (.if_icmp .ge 27, 3) := by decide +kernel
theorem dX6_century_53 : decode cX6_century 53 = .ok (.aload_n 0, 1) := by decide +kernel
theorem dX6_century_54 : decode cX6_century 54 = .ok (.iload_n 1, 1) := by decide +kernel
theorem dX6_century_55 : decode cX6_century 55 = .ok (.iload 4, 2) := by decide +kernel
theorem dX6_century_57 : decode cX6_century 57 = .ok (.invokestatic 262, 3) := by decide +kernel
theorem dX6_century_60 : decode cX6_century 60 = .ok (.invokevirtual 265, 3) := by decide +kernel
theorem dX6_century_63 : decode cX6_century 63 = .ok (.aload_n 0, 1) := by decide +kernel
theorem dX6_century_64 : decode cX6_century 64 = .ok (.getfield 23, 3) := by decide +kernel
theorem dX6_century_67 : decode cX6_century 67 = .ok (.iconst 1, 1) := by decide +kernel
theorem dX6_century_68 : decode cX6_century 68 = .ok (.invokevirtual 144, 3) := by decide +kernel
theorem dX6_century_71 : decode cX6_century 71 = .ok (.iinc 4 1, 3) := by decide +kernel
theorem dX6_century_74 : decode cX6_century 74 = .ok (.goto (-27), 3) := by decide +kernel
theorem dX6_century_77 : decode cX6_century 77 = .ok (.iload_n 3, 1) := by decide +kernel
theorem dX6_century_78 : decode cX6_century 78 = .ok (.lookupswitch 42 #[(0, 26), (1, 34)], 26) := by decide +kernel
theorem dX6_century_104 : decode cX6_century 104 = .ok (.aload_n 0, 1) := by decide +kernel
theorem dX6_century_105 : decode cX6_century 105 = .ok (.getfield 23, 3) := by decide +kernel
theorem dX6_century_108 : decode cX6_century 108 = .ok (.invokevirtual 186, 3) := by decide +kernel
theorem dX6_century_111 : decode cX6_century 111 = .ok (.ireturn, 1) := by decide +kernel
theorem dX6_century_112 : decode cX6_century 112 = .ok (.aload_n 0, 1) := by decide +kernel
theorem dX6_century_113 : decode cX6_century 113 = .ok (.getfield 23, 3) := by decide +kernel
theorem dX6_century_116 : decode cX6_century 116 = .ok (.invokevirtual 268, 3) := by decide +kernel
theorem dX6_century_119 : decode cX6_century 119 = .ok (.ireturn, 1) := by decide +kernel
theorem dX6_century_120 : decode cX6_century 120 = .ok (.aload_n 0, 1) := by decide +kernel
theorem dX6_century_121 : decode cX6_century 121 = .ok (.getfield 23, 3) := by decide +kernel
theorem dX6_century_124 : decode cX6_century 124 = .ok (.invokevirtual 91, 3) := by decide +kernel
theorem dX6_century_127 : decode cX6_century 127 = .ok (.invokevirtual 271, 3) := by decide +kernel
theorem dX6_century_130 : decode cX6_century 130 = .ok (.ireturn, 1) := by decide +kernel
theorem dX6_drawn_0 : decode cX6_drawn 0 = .ok (.ldc2_w 274, 3) := by decide +kernel
theorem dX6_drawn_3 : decode cX6_drawn 3 = .ok (.iload_n 0, 1) := by decide +kernel
theorem dX6_drawn_4 : decode cX6_drawn 4 = .ok (.i2l, 1) := by decide +kernel
theorem dX6_drawn_5 : decode cX6_drawn 5 = .ok (.lmul, 1) := by decide +kernel
theorem dX6_drawn_6 : decode cX6_drawn 6 = .ok (.ldc2_w 276, 3) := by decide +kernel
theorem dX6_drawn_9 : decode cX6_drawn 9 = .ok (.iload_n 1, 1) := by decide +kernel
theorem dX6_drawn_10 : decode cX6_drawn 10 = .ok (.i2l, 1) := by decide +kernel
theorem dX6_drawn_11 : decode cX6_drawn 11 = .ok (.lmul, 1) := by decide +kernel
theorem dX6_drawn_12 : decode cX6_drawn 12 = .ok (.ladd, 1) := by decide +kernel
theorem dX6_drawn_13 : decode cX6_drawn 13 = .ok (.lconst 1, 1) := by decide +kernel
theorem dX6_drawn_14 : decode cX6_drawn 14 = .ok (.ladd, 1) := by decide +kernel
theorem dX6_drawn_15 : decode cX6_drawn 15 = .ok (.lstore_n 2, 1) := by decide +kernel
theorem dX6_drawn_16 : decode cX6_drawn 16 = .ok (.lload_n 2, 1) := by decide +kernel
theorem dX6_drawn_17 : decode cX6_drawn 17 = .ok (.lload_n 2, 1) := by decide +kernel
theorem dX6_drawn_18 : decode cX6_drawn 18 = .ok (.lmul, 1) := by decide +kernel
theorem dX6_drawn_19 : decode cX6_drawn 19 = .ok (.ldc2_w 278, 3) := by decide +kernel
theorem dX6_drawn_22 : decode cX6_drawn 22 = .ok (.lrem, 1) := by decide +kernel
theorem dX6_drawn_23 : decode cX6_drawn 23 = .ok (.ldc2_w 280, 3) := by decide +kernel
theorem dX6_drawn_26 : decode cX6_drawn 26 = .ok (.ldiv, 1) := by decide +kernel
theorem dX6_drawn_27 : decode cX6_drawn 27 = .ok (.l2i, 1) := by decide +kernel
theorem dX6_drawn_28 : decode cX6_drawn 28 = .ok (.ireturn, 1) := by decide +kernel
theorem dX6_actByDraw_0 : decode cX6_actByDraw 0 = .ok (.aload_n 0, 1) := by decide +kernel
theorem dX6_actByDraw_1 : decode cX6_actByDraw 1 = .ok (.getfield 23, 3) := by decide +kernel
theorem dX6_actByDraw_4 : decode cX6_actByDraw 4 = .ok (.invokevirtual 74, 3) := by decide +kernel
theorem dX6_actByDraw_7 : decode cX6_actByDraw 7 = .ok (.istore_n 2, 1) := by decide +kernel
theorem dX6_actByDraw_8 : decode cX6_actByDraw 8 = .ok (.aload_n 0, 1) := by decide +kernel
theorem dX6_actByDraw_9 : decode cX6_actByDraw 9 = .ok (.getfield 23, 3) := by decide +kernel
theorem dX6_actByDraw_12 : decode cX6_actByDraw 12 = .ok (.invokevirtual 174, 3) := by decide +kernel
theorem dX6_actByDraw_15 : decode cX6_actByDraw 15 = .ok (.istore_n 3, 1) := by decide +kernel
theorem dX6_actByDraw_16 : decode cX6_actByDraw 16 = .ok (.iload_n 2, 1) := by decide +kernel
theorem dX6_actByDraw_17 : decode cX6_actByDraw 17 = .ok (.iconst 1, 1) := by decide +kernel
theorem dX6_actByDraw_18 : decode cX6_actByDraw 18 = .ok (.if_icmp .lt 8, 3) := by decide +kernel
theorem dX6_actByDraw_21 : decode cX6_actByDraw 21 = .ok (.iload_n 3, 1) := by decide +kernel
theorem dX6_actByDraw_22 : decode cX6_actByDraw 22 = .ok (.iconst 1, 1) := by decide +kernel
theorem dX6_actByDraw_23 : decode cX6_actByDraw 23 = .ok (.if_icmp .ge 4, 3) := by decide +kernel
theorem dX6_actByDraw_26 : decode cX6_actByDraw 26 = .ok (.return_, 1) := by decide +kernel
theorem dX6_actByDraw_27 : decode cX6_actByDraw 27 = .ok (.iload_n 1, 1) := by decide +kernel
theorem dX6_actByDraw_28 : decode cX6_actByDraw 28 = .ok (.iload_n 2, 1) := by decide +kernel
theorem dX6_actByDraw_29 : decode cX6_actByDraw 29 = .ok (.irem, 1) := by decide +kernel
theorem dX6_actByDraw_30 : decode cX6_actByDraw 30 = .ok (.istore 4, 2) := by decide +kernel
theorem dX6_actByDraw_32 : decode cX6_actByDraw 32 = .ok (.iload_n 1, 1) := by decide +kernel
theorem dX6_actByDraw_33 : decode cX6_actByDraw 33 = .ok (.bipush 8, 2) := by decide +kernel
theorem dX6_actByDraw_35 : decode cX6_actByDraw 35 = .ok (.idiv, 1) := by decide +kernel
theorem dX6_actByDraw_36 : decode cX6_actByDraw 36 = .ok (.iload_n 3, 1) := by decide +kernel
theorem dX6_actByDraw_37 : decode cX6_actByDraw 37 = .ok (.irem, 1) := by decide +kernel
theorem dX6_actByDraw_38 : decode cX6_actByDraw 38 = .ok (.istore 5, 2) := by decide +kernel
theorem dX6_actByDraw_40 : decode cX6_actByDraw 40 = .ok (.iload_n 1, 1) := by decide +kernel
theorem dX6_actByDraw_41 : decode cX6_actByDraw 41 = .ok (.bipush 64, 2) := by decide +kernel
theorem dX6_actByDraw_43 : decode cX6_actByDraw 43 = .ok (.idiv, 1) := by decide +kernel
theorem dX6_actByDraw_44 : decode cX6_actByDraw 44 = .ok (.bipush 6, 2) := by decide +kernel
theorem dX6_actByDraw_46 : decode cX6_actByDraw 46 = .ok (.irem, 1) := by decide +kernel
theorem dX6_actByDraw_47 : decode cX6_actByDraw 47 = .ok (.tableswitch 110 0 3 #[29, 54, 80, 91], 29) := by decide +kernel
theorem dX6_actByDraw_76 : decode cX6_actByDraw 76 = .ok (.aload_n 0, 1) := by decide +kernel
theorem dX6_actByDraw_77 : decode cX6_actByDraw 77 = .ok (.getfield 23, 3) := by decide +kernel
theorem dX6_actByDraw_80 : decode cX6_actByDraw 80 = .ok (.iload 4, 2) := by decide +kernel
theorem dX6_actByDraw_82 : decode cX6_actByDraw 82 = .ok (.invokevirtual 154, 3) := by decide +kernel
theorem dX6_actByDraw_85 : decode cX6_actByDraw 85 = .ok (.ifCond .ne 72, 3) := by decide +kernel
theorem dX6_actByDraw_88 : decode cX6_actByDraw 88 = .ok (.aload_n 0, 1) := by decide +kernel
theorem dX6_actByDraw_89 : decode cX6_actByDraw 89 = .ok (.getfield 23, 3) := by decide +kernel
theorem dX6_actByDraw_92 : decode cX6_actByDraw 92 = .ok (.iload 4, 2) := by decide +kernel
theorem dX6_actByDraw_94 : decode cX6_actByDraw 94 = .ok (.invokevirtual 157, 3) := by decide +kernel
theorem dX6_actByDraw_97 : decode cX6_actByDraw 97 = .ok (.pop, 1) := by decide +kernel
theorem dX6_actByDraw_98 : decode cX6_actByDraw 98 = .ok (.goto 59, 3) := by decide +kernel
theorem dX6_actByDraw_101 : decode cX6_actByDraw 101 = .ok (.aload_n 0, 1) := by decide +kernel
theorem dX6_actByDraw_102 : decode cX6_actByDraw 102 = .ok (.getfield 23, 3) := by decide +kernel
theorem dX6_actByDraw_105 : decode cX6_actByDraw 105 = .ok (.iload 4, 2) := by decide +kernel
theorem dX6_actByDraw_107 : decode cX6_actByDraw 107 = .ok (.invokevirtual 154, 3) := by decide +kernel
theorem dX6_actByDraw_110 : decode cX6_actByDraw 110 = .ok (.ifCond .ne 47, 3) := by decide +kernel
theorem dX6_actByDraw_113 : decode cX6_actByDraw 113 = .ok (.aload_n 0, 1) := by decide +kernel
theorem dX6_actByDraw_114 : decode cX6_actByDraw 114 = .ok (.getfield 23, 3) := by decide +kernel
theorem dX6_actByDraw_117 : decode cX6_actByDraw 117 = .ok (.iload 4, 2) := by decide +kernel
theorem dX6_actByDraw_119 : decode cX6_actByDraw 119 = .ok (.iload 5, 2) := by decide +kernel
theorem dX6_actByDraw_121 : decode cX6_actByDraw 121 = .ok (.invokevirtual 160, 3) := by decide +kernel
theorem dX6_actByDraw_124 : decode cX6_actByDraw 124 = .ok (.goto 33, 3) := by decide +kernel
theorem dX6_actByDraw_127 : decode cX6_actByDraw 127 = .ok (.aload_n 0, 1) := by decide +kernel
theorem dX6_actByDraw_128 : decode cX6_actByDraw 128 = .ok (.getfield 23, 3) := by decide +kernel
theorem dX6_actByDraw_131 : decode cX6_actByDraw 131 = .ok (.invokevirtual 147, 3) := by decide +kernel
theorem dX6_actByDraw_134 : decode cX6_actByDraw 134 = .ok (.pop, 1) := by decide +kernel
theorem dX6_actByDraw_135 : decode cX6_actByDraw 135 = .ok (.goto 22, 3) := by decide +kernel
theorem dX6_actByDraw_138 : decode cX6_actByDraw 138 = .ok (.aload_n 0, 1) := by decide +kernel
theorem dX6_actByDraw_139 : decode cX6_actByDraw 139 = .ok (.iload 5, 2) := by decide +kernel
theorem dX6_actByDraw_141 : decode cX6_actByDraw 141 = .ok (.iload_n 1, 1) := by decide +kernel
theorem dX6_actByDraw_142 : decode cX6_actByDraw 142 = .ok (.sipush 512, 3) := by decide +kernel
theorem dX6_actByDraw_145 : decode cX6_actByDraw 145 = .ok (.idiv, 1) := by decide +kernel
theorem dX6_actByDraw_146 : decode cX6_actByDraw 146 = .ok (.bipush 9, 2) := by decide +kernel
theorem dX6_actByDraw_148 : decode cX6_actByDraw 148 = .ok (.irem, 1) := by decide +kernel
theorem dX6_actByDraw_149 : decode cX6_actByDraw 149 = .ok (.iconst 1, 1) := by decide +kernel
theorem dX6_actByDraw_150 : decode cX6_actByDraw 150 = .ok (.iadd, 1) := by decide +kernel
theorem dX6_actByDraw_151 : decode cX6_actByDraw 151 = .ok (.invokevirtual 282, 3) := by decide +kernel
theorem dX6_actByDraw_154 : decode cX6_actByDraw 154 = .ok (.goto 3, 3) := by decide +kernel
theorem dX6_actByDraw_157 : decode cX6_actByDraw 157 = .ok (.return_, 1) := by decide +kernel
theorem dX6_layOrClose_0 : decode cX6_layOrClose 0 = .ok (.aload_n 0, 1) := by decide +kernel
theorem dX6_layOrClose_1 : decode cX6_layOrClose 1 = .ok (.getfield 23, 3) := by decide +kernel
theorem dX6_layOrClose_4 : decode cX6_layOrClose 4 = .ok (.invokevirtual 91, 3) := by decide +kernel
theorem dX6_layOrClose_7 : decode cX6_layOrClose 7 = .ok (.astore_n 3, 1) := by decide +kernel
theorem dX6_layOrClose_8 : decode cX6_layOrClose 8 = .ok (.aload_n 3, 1) := by decide +kernel
theorem dX6_layOrClose_9 : decode cX6_layOrClose 9 = .ok (.iload_n 1, 1) := by decide +kernel
theorem dX6_layOrClose_10 : decode cX6_layOrClose 10 = .ok (.invokevirtual 285, 3) := by decide +kernel
theorem dX6_layOrClose_13 : decode cX6_layOrClose 13 = .ok (.istore 4, 2) := by decide +kernel
theorem dX6_layOrClose_15 : decode cX6_layOrClose 15 = .ok (.aload_n 3, 1) := by decide +kernel
theorem dX6_layOrClose_16 : decode cX6_layOrClose 16 = .ok (.iload_n 1, 1) := by decide +kernel
theorem dX6_layOrClose_17 : decode cX6_layOrClose 17 = .ok (.iload 4, 2) := by decide +kernel
theorem dX6_layOrClose_19 : decode cX6_layOrClose 19 = .ok (.aload_n 3, 1) := by decide +kernel
theorem dX6_layOrClose_20 : decode cX6_layOrClose 20 = .ok (.iload_n 1, 1) := by decide +kernel
theorem dX6_layOrClose_21 : decode cX6_layOrClose 21 = .ok (.iload 4, 2) := by decide +kernel
theorem dX6_layOrClose_23 : decode cX6_layOrClose 23 = .ok (.invokevirtual 95, 3) := by decide +kernel
theorem dX6_layOrClose_26 : decode cX6_layOrClose 26 = .ok (.ifCond .le 7, 3) := by decide +kernel
theorem dX6_layOrClose_29 : decode cX6_layOrClose 29 = .ok (.iconst 0, 1) := by decide +kernel
theorem dX6_layOrClose_30 : decode cX6_layOrClose 30 = .ok (.goto 4, 3) := by decide +kernel
theorem dX6_layOrClose_33 : decode cX6_layOrClose 33 = .ok (.iload_n 2, 1) := by decide +kernel
theorem dX6_layOrClose_34 : decode cX6_layOrClose 34 = .ok (.invokevirtual 150, 3) := by decide +kernel
theorem dX6_layOrClose_37 : decode cX6_layOrClose 37 = .ok (.return_, 1) := by decide +kernel
theorem dX6_keep_0 : decode cX6_keep 0 = .ok (.aload_n 0, 1) := by decide +kernel
theorem dX6_keep_1 : decode cX6_keep 1 = .ok (.getfield 35, 3) := by decide +kernel
theorem dX6_keep_4 : decode cX6_keep 4 = .ok (.invokevirtual 171, 3) := by decide +kernel
theorem dX6_keep_7 : decode cX6_keep 7 = .ok (.iconst 2, 1) := by decide +kernel
theorem dX6_keep_8 : decode cX6_keep 8 = .ok (.if_icmp .lt 6, 3) := by decide +kernel
theorem dX6_keep_11 : decode cX6_keep 11 = .ok (.bipush (-3), 2) := by decide +kernel
theorem dX6_keep_13 : decode cX6_keep 13 = .ok (.ireturn, 1) := by decide +kernel
theorem dX6_keep_14 : decode cX6_keep 14 = .ok (.aload_n 0, 1) := by decide +kernel
theorem dX6_keep_15 : decode cX6_keep 15 = .ok (.getfield 35, 3) := by decide +kernel
theorem dX6_keep_18 : decode cX6_keep 18 = .ok (.aload_n 0, 1) := by decide +kernel
theorem dX6_keep_19 : decode cX6_keep 19 = .ok (.getfield 19, 3) := by decide +kernel
theorem dX6_keep_22 : decode cX6_keep 22 = .ok (.invokevirtual 141, 3) := by decide +kernel
theorem dX6_keep_25 : decode cX6_keep 25 = .ok (.aload_n 0, 1) := by decide +kernel
theorem dX6_keep_26 : decode cX6_keep 26 = .ok (.getfield 35, 3) := by decide +kernel
theorem dX6_keep_29 : decode cX6_keep 29 = .ok (.invokevirtual 171, 3) := by decide +kernel
theorem dX6_keep_32 : decode cX6_keep 32 = .ok (.ireturn, 1) := by decide +kernel
theorem dX6_back_0 : decode cX6_back 0 = .ok (.aload_n 0, 1) := by decide +kernel
theorem dX6_back_1 : decode cX6_back 1 = .ok (.getfield 35, 3) := by decide +kernel
theorem dX6_back_4 : decode cX6_back 4 = .ok (.aload_n 0, 1) := by decide +kernel
theorem dX6_back_5 : decode cX6_back 5 = .ok (.getfield 19, 3) := by decide +kernel
theorem dX6_back_8 : decode cX6_back 8 = .ok (.invokevirtual 167, 3) := by decide +kernel
theorem dX6_back_11 : decode cX6_back 11 = .ok (.ifCond .ne 6, 3) := by decide +kernel
theorem dX6_back_14 : decode cX6_back 14 = .ok (.bipush (-2), 2) := by decide +kernel
theorem dX6_back_16 : decode cX6_back 16 = .ok (.ireturn, 1) := by decide +kernel
theorem dX6_back_17 : decode cX6_back 17 = .ok (.aload_n 0, 1) := by decide +kernel
theorem dX6_back_18 : decode cX6_back 18 = .ok (.getfield 31, 3) := by decide +kernel
theorem dX6_back_21 : decode cX6_back 21 = .ok (.invokevirtual 84, 3) := by decide +kernel
theorem dX6_back_24 : decode cX6_back 24 = .ok (.aload_n 0, 1) := by decide +kernel
theorem dX6_back_25 : decode cX6_back 25 = .ok (.getfield 35, 3) := by decide +kernel
theorem dX6_back_28 : decode cX6_back 28 = .ok (.invokevirtual 171, 3) := by decide +kernel
theorem dX6_back_31 : decode cX6_back 31 = .ok (.ireturn, 1) := by decide +kernel
theorem dX6_count_0 : decode cX6_count 0 = .ok (.iload_n 1, 1) := by decide +kernel
theorem dX6_count_1 : decode cX6_count 1 = .ok (.tableswitch 174 0 12 #[67, 75, 83, 91, 99, 107, 118, 126, 134, 142, 150, 158, 166], 67) := by decide +kernel
theorem dX6_count_68 : decode cX6_count 68 = .ok (.aload_n 0, 1) := by decide +kernel
theorem dX6_count_69 : decode cX6_count 69 = .ok (.getfield 19, 3) := by decide +kernel
theorem dX6_count_72 : decode cX6_count 72 = .ok (.invokevirtual 174, 3) := by decide +kernel
theorem dX6_count_75 : decode cX6_count 75 = .ok (.ireturn, 1) := by decide +kernel
theorem dX6_count_76 : decode cX6_count 76 = .ok (.aload_n 0, 1) := by decide +kernel
theorem dX6_count_77 : decode cX6_count 77 = .ok (.getfield 19, 3) := by decide +kernel
theorem dX6_count_80 : decode cX6_count 80 = .ok (.invokevirtual 74, 3) := by decide +kernel
theorem dX6_count_83 : decode cX6_count 83 = .ok (.ireturn, 1) := by decide +kernel
theorem dX6_count_84 : decode cX6_count 84 = .ok (.aload_n 0, 1) := by decide +kernel
theorem dX6_count_85 : decode cX6_count 85 = .ok (.getfield 19, 3) := by decide +kernel
theorem dX6_count_88 : decode cX6_count 88 = .ok (.invokevirtual 77, 3) := by decide +kernel
theorem dX6_count_91 : decode cX6_count 91 = .ok (.ireturn, 1) := by decide +kernel
theorem dX6_count_92 : decode cX6_count 92 = .ok (.aload_n 0, 1) := by decide +kernel
theorem dX6_count_93 : decode cX6_count 93 = .ok (.getfield 19, 3) := by decide +kernel
theorem dX6_count_96 : decode cX6_count 96 = .ok (.invokevirtual 138, 3) := by decide +kernel
theorem dX6_count_99 : decode cX6_count 99 = .ok (.ireturn, 1) := by decide +kernel
theorem dX6_count_100 : decode cX6_count 100 = .ok (.aload_n 0, 1) := by decide +kernel
theorem dX6_count_101 : decode cX6_count 101 = .ok (.getfield 19, 3) := by decide +kernel
theorem dX6_count_104 : decode cX6_count 104 = .ok (.invokevirtual 288, 3) := by decide +kernel
theorem dX6_count_107 : decode cX6_count 107 = .ok (.ireturn, 1) := by decide +kernel
theorem dX6_count_108 : decode cX6_count 108 = .ok (.aload_n 0, 1) := by decide +kernel
theorem dX6_count_109 : decode cX6_count 109 = .ok (.getfield 19, 3) := by decide +kernel
theorem dX6_count_112 : decode cX6_count 112 = .ok (.invokevirtual 91, 3) := by decide +kernel
theorem dX6_count_115 : decode cX6_count 115 = .ok (.invokevirtual 291, 3) := by decide +kernel
theorem dX6_count_118 : decode cX6_count 118 = .ok (.ireturn, 1) := by decide +kernel
theorem dX6_count_119 : decode cX6_count 119 = .ok (.aload_n 0, 1) := by decide +kernel
theorem dX6_count_120 : decode cX6_count 120 = .ok (.getfield 19, 3) := by decide +kernel
theorem dX6_count_123 : decode cX6_count 123 = .ok (.invokevirtual 268, 3) := by decide +kernel
theorem dX6_count_126 : decode cX6_count 126 = .ok (.ireturn, 1) := by decide +kernel
theorem dX6_count_127 : decode cX6_count 127 = .ok (.aload_n 0, 1) := by decide +kernel
theorem dX6_count_128 : decode cX6_count 128 = .ok (.getfield 19, 3) := by decide +kernel
theorem dX6_count_131 : decode cX6_count 131 = .ok (.invokevirtual 186, 3) := by decide +kernel
theorem dX6_count_134 : decode cX6_count 134 = .ok (.ireturn, 1) := by decide +kernel
theorem dX6_count_135 : decode cX6_count 135 = .ok (.aload_n 0, 1) := by decide +kernel
theorem dX6_count_136 : decode cX6_count 136 = .ok (.getfield 41, 3) := by decide +kernel
theorem dX6_count_139 : decode cX6_count 139 = .ok (.invokevirtual 219, 3) := by decide +kernel
theorem dX6_count_142 : decode cX6_count 142 = .ok (.ireturn, 1) := by decide +kernel
theorem dX6_count_143 : decode cX6_count 143 = .ok (.aload_n 0, 1) := by decide +kernel
theorem dX6_count_144 : decode cX6_count 144 = .ok (.getfield 45, 3) := by decide +kernel
theorem dX6_count_147 : decode cX6_count 147 = .ok (.invokevirtual 219, 3) := by decide +kernel
theorem dX6_count_150 : decode cX6_count 150 = .ok (.ireturn, 1) := by decide +kernel
theorem dX6_count_151 : decode cX6_count 151 = .ok (.aload_n 0, 1) := by decide +kernel
theorem dX6_count_152 : decode cX6_count 152 = .ok (.getfield 31, 3) := by decide +kernel
theorem dX6_count_155 : decode cX6_count 155 = .ok (.invokevirtual 171, 3) := by decide +kernel
theorem dX6_count_158 : decode cX6_count 158 = .ok (.ireturn, 1) := by decide +kernel
theorem dX6_count_159 : decode cX6_count 159 = .ok (.aload_n 0, 1) := by decide +kernel
theorem dX6_count_160 : decode cX6_count 160 = .ok (.getfield 35, 3) := by decide +kernel
theorem dX6_count_163 : decode cX6_count 163 = .ok (.invokevirtual 171, 3) := by decide +kernel
theorem dX6_count_166 : decode cX6_count 166 = .ok (.ireturn, 1) := by decide +kernel
theorem dX6_count_167 : decode cX6_count 167 = .ok (.aload_n 0, 1) := by decide +kernel
theorem dX6_count_168 : decode cX6_count 168 = .ok (.getfield 10, 3) := by decide +kernel
theorem dX6_count_171 : decode cX6_count 171 = .ok (.invokevirtual 294, 3) := by decide +kernel
theorem dX6_count_174 : decode cX6_count 174 = .ok (.ireturn, 1) := by decide +kernel
theorem dX6_count_175 : decode cX6_count 175 = .ok (.iconst (-1), 1) := by decide +kernel
theorem dX6_count_176 : decode cX6_count 176 = .ok (.ireturn, 1) := by decide +kernel
theorem dX6_hasBit_0 : decode cX6_hasBit 0 = .ok (.iload_n 0, 1) := by decide +kernel
theorem dX6_hasBit_1 : decode cX6_hasBit 1 = .ok (.iload_n 1, 1) := by decide +kernel
theorem dX6_hasBit_2 : decode cX6_hasBit 2 = .ok (.ishr, 1) := by decide +kernel
theorem dX6_hasBit_3 : decode cX6_hasBit 3 = .ok (.iconst 1, 1) := by decide +kernel
theorem dX6_hasBit_4 : decode cX6_hasBit 4 = .ok (.iand, 1) := by decide +kernel
theorem dX6_hasBit_5 : decode cX6_hasBit 5 = .ok (.iconst 1, 1) := by decide +kernel
theorem dX6_hasBit_6 : decode cX6_hasBit 6 = .ok (.if_icmp .ne 7, 3) := by decide +kernel
theorem dX6_hasBit_9 : decode cX6_hasBit 9 = .ok (.iconst 1, 1) := by decide +kernel
theorem dX6_hasBit_10 : decode cX6_hasBit 10 = .ok (.goto 4, 3) := by decide +kernel
theorem dX6_hasBit_13 : decode cX6_hasBit 13 = .ok (.iconst 0, 1) := by decide +kernel
theorem dX6_hasBit_14 : decode cX6_hasBit 14 = .ok (.ireturn, 1) := by decide +kernel
theorem dX7_init_0 : decode cX7_init 0 = .ok (.aload_n 0, 1) := by decide +kernel
theorem dX7_init_1 : decode cX7_init 1 = .ok (.invokespecial 1, 3) := by decide +kernel
theorem dX7_init_4 : decode cX7_init 4 = .ok (.aload_n 0, 1) := by decide +kernel
theorem dX7_init_5 : decode cX7_init 5 = .ok (.sipush 200, 3) := by decide +kernel
theorem dX7_init_8 : decode cX7_init 8 = .ok (.newarray .byte, 2) := by decide +kernel
theorem dX7_init_10 : decode cX7_init 10 = .ok (.putfield 7, 3) := by decide +kernel
theorem dX7_init_13 : decode cX7_init 13 = .ok (.aload_n 0, 1) := by decide +kernel
theorem dX7_init_14 : decode cX7_init 14 = .ok (.iconst 2, 1) := by decide +kernel
theorem dX7_init_15 : decode cX7_init 15 = .ok (.newarray .int, 2) := by decide +kernel
theorem dX7_init_17 : decode cX7_init 17 = .ok (.putfield 13, 3) := by decide +kernel
theorem dX7_init_20 : decode cX7_init 20 = .ok (.aload_n 0, 1) := by decide +kernel
theorem dX7_init_21 : decode cX7_init 21 = .ok (.iconst 2, 1) := by decide +kernel
theorem dX7_init_22 : decode cX7_init 22 = .ok (.newarray .int, 2) := by decide +kernel
theorem dX7_init_24 : decode cX7_init 24 = .ok (.putfield 17, 3) := by decide +kernel
theorem dX7_init_27 : decode cX7_init 27 = .ok (.aload_n 0, 1) := by decide +kernel
theorem dX7_init_28 : decode cX7_init 28 = .ok (.iconst 2, 1) := by decide +kernel
theorem dX7_init_29 : decode cX7_init 29 = .ok (.newarray .int, 2) := by decide +kernel
theorem dX7_init_31 : decode cX7_init 31 = .ok (.putfield 20, 3) := by decide +kernel
theorem dX7_init_34 : decode cX7_init 34 = .ok (.aload_n 0, 1) := by decide +kernel
theorem dX7_init_35 : decode cX7_init 35 = .ok (.bipush 12, 2) := by decide +kernel
theorem dX7_init_37 : decode cX7_init 37 = .ok (.newarray .int, 2) := by decide +kernel
theorem dX7_init_39 : decode cX7_init 39 = .ok (.putfield 23, 3) := by decide +kernel
theorem dX7_init_42 : decode cX7_init 42 = .ok (.aload_n 0, 1) := by decide +kernel
theorem dX7_init_43 : decode cX7_init 43 = .ok (.bipush 10, 2) := by decide +kernel
theorem dX7_init_45 : decode cX7_init 45 = .ok (.newarray .int, 2) := by decide +kernel
theorem dX7_init_47 : decode cX7_init 47 = .ok (.putfield 26, 3) := by decide +kernel
theorem dX7_init_50 : decode cX7_init 50 = .ok (.aload_n 0, 1) := by decide +kernel
theorem dX7_init_51 : decode cX7_init 51 = .ok (.bipush 64, 2) := by decide +kernel
theorem dX7_init_53 : decode cX7_init 53 = .ok (.newarray .int, 2) := by decide +kernel
theorem dX7_init_55 : decode cX7_init 55 = .ok (.putfield 29, 3) := by decide +kernel
theorem dX7_init_58 : decode cX7_init 58 = .ok (.aload_n 0, 1) := by decide +kernel
theorem dX7_init_59 : decode cX7_init 59 = .ok (.bipush 6, 2) := by decide +kernel
theorem dX7_init_61 : decode cX7_init 61 = .ok (.newarray .int, 2) := by decide +kernel
theorem dX7_init_63 : decode cX7_init 63 = .ok (.putfield 32, 3) := by decide +kernel
theorem dX7_init_66 : decode cX7_init 66 = .ok (.aload_n 0, 1) := by decide +kernel
theorem dX7_init_67 : decode cX7_init 67 = .ok (.bipush 6, 2) := by decide +kernel
theorem dX7_init_69 : decode cX7_init 69 = .ok (.newarray .int, 2) := by decide +kernel
theorem dX7_init_71 : decode cX7_init 71 = .ok (.putfield 35, 3) := by decide +kernel
theorem dX7_init_74 : decode cX7_init 74 = .ok (.aload_n 0, 1) := by decide +kernel
theorem dX7_init_75 : decode cX7_init 75 = .ok (.iconst 5, 1) := by decide +kernel
theorem dX7_init_76 : decode cX7_init 76 = .ok (.newarray .int, 2) := by decide +kernel
theorem dX7_init_78 : decode cX7_init 78 = .ok (.putfield 38, 3) := by decide +kernel
theorem dX7_init_81 : decode cX7_init 81 = .ok (.aload_n 0, 1) := by decide +kernel
theorem dX7_init_82 : decode cX7_init 82 = .ok (.sipush 179, 3) := by decide +kernel
theorem dX7_init_85 : decode cX7_init 85 = .ok (.newarray .int, 2) := by decide +kernel
theorem dX7_init_87 : decode cX7_init 87 = .ok (.putfield 41, 3) := by decide +kernel
theorem dX7_init_90 : decode cX7_init 90 = .ok (.aload_n 0, 1) := by decide +kernel
theorem dX7_init_91 : decode cX7_init 91 = .ok (.sipush 1432, 3) := by decide +kernel
theorem dX7_init_94 : decode cX7_init 94 = .ok (.newarray .int, 2) := by decide +kernel
theorem dX7_init_96 : decode cX7_init 96 = .ok (.putfield 44, 3) := by decide +kernel
theorem dX7_init_99 : decode cX7_init 99 = .ok (.aload_n 0, 1) := by decide +kernel
theorem dX7_init_100 : decode cX7_init 100 = .ok (.sipush 358, 3) := by decide +kernel
theorem dX7_init_103 : decode cX7_init 103 = .ok (.newarray .int, 2) := by decide +kernel
theorem dX7_init_105 : decode cX7_init 105 = .ok (.putfield 47, 3) := by decide +kernel
theorem dX7_init_108 : decode cX7_init 108 = .ok (.aload_n 0, 1) := by decide +kernel
theorem dX7_init_109 : decode cX7_init 109 = .ok (.sipush 179, 3) := by decide +kernel
theorem dX7_init_112 : decode cX7_init 112 = .ok (.newarray .int, 2) := by decide +kernel
theorem dX7_init_114 : decode cX7_init 114 = .ok (.putfield 50, 3) := by decide +kernel
theorem dX7_init_117 : decode cX7_init 117 = .ok (.aload_n 0, 1) := by decide +kernel
theorem dX7_init_118 : decode cX7_init 118 = .ok (.bipush 64, 2) := by decide +kernel
theorem dX7_init_120 : decode cX7_init 120 = .ok (.newarray .int, 2) := by decide +kernel
theorem dX7_init_122 : decode cX7_init 122 = .ok (.putfield 53, 3) := by decide +kernel
theorem dX7_init_125 : decode cX7_init 125 = .ok (.aload_n 0, 1) := by decide +kernel
theorem dX7_init_126 : decode cX7_init 126 = .ok (.iconst 5, 1) := by decide +kernel
theorem dX7_init_127 : decode cX7_init 127 = .ok (.newarray .int, 2) := by decide +kernel
theorem dX7_init_129 : decode cX7_init 129 = .ok (.putfield 56, 3) := by decide +kernel
theorem dX7_init_132 : decode cX7_init 132 = .ok (.aload_n 0, 1) := by decide +kernel
theorem dX7_init_133 : decode cX7_init 133 = .ok (.bipush 6, 2) := by decide +kernel
theorem dX7_init_135 : decode cX7_init 135 = .ok (.newarray .int, 2) := by decide +kernel
theorem dX7_init_137 : decode cX7_init 137 = .ok (.putfield 59, 3) := by decide +kernel
theorem dX7_init_140 : decode cX7_init 140 = .ok (.aload_n 0, 1) := by decide +kernel
theorem dX7_init_141 : decode cX7_init 141 = .ok (.bipush 6, 2) := by decide +kernel
theorem dX7_init_143 : decode cX7_init 143 = .ok (.newarray .int, 2) := by decide +kernel
theorem dX7_init_145 : decode cX7_init 145 = .ok (.putfield 62, 3) := by decide +kernel
theorem dX7_init_148 : decode cX7_init 148 = .ok (.aload_n 0, 1) := by decide +kernel
theorem dX7_init_149 : decode cX7_init 149 = .ok (.bipush 6, 2) := by decide +kernel
theorem dX7_init_151 : decode cX7_init 151 = .ok (.newarray .int, 2) := by decide +kernel
theorem dX7_init_153 : decode cX7_init 153 = .ok (.putfield 65, 3) := by decide +kernel
theorem dX7_init_156 : decode cX7_init 156 = .ok (.aload_n 0, 1) := by decide +kernel
theorem dX7_init_157 : decode cX7_init 157 = .ok (.bipush 6, 2) := by decide +kernel
theorem dX7_init_159 : decode cX7_init 159 = .ok (.newarray .int, 2) := by decide +kernel
theorem dX7_init_161 : decode cX7_init 161 = .ok (.putfield 68, 3) := by decide +kernel
theorem dX7_init_164 : decode cX7_init 164 = .ok (.aload_n 0, 1) := by decide +kernel
theorem dX7_init_165 : decode cX7_init 165 = .ok (.bipush 6, 2) := by decide +kernel
theorem dX7_init_167 : decode cX7_init 167 = .ok (.newarray .int, 2) := by decide +kernel
theorem dX7_init_169 : decode cX7_init 169 = .ok (.putfield 71, 3) := by decide +kernel
theorem dX7_init_172 : decode cX7_init 172 = .ok (.aload_n 0, 1) := by decide +kernel
theorem dX7_init_173 : decode cX7_init 173 = .ok (.bipush 6, 2) := by decide +kernel
theorem dX7_init_175 : decode cX7_init 175 = .ok (.newarray .int, 2) := by decide +kernel
theorem dX7_init_177 : decode cX7_init 177 = .ok (.putfield 74, 3) := by decide +kernel
theorem dX7_init_180 : decode cX7_init 180 = .ok (.aload_n 0, 1) := by decide +kernel
theorem dX7_init_181 : decode cX7_init 181 = .ok (.invokevirtual 77, 3) := by decide +kernel
theorem dX7_init_184 : decode cX7_init 184 = .ok (.aload_n 0, 1) := by decide +kernel
theorem dX7_init_185 : decode cX7_init 185 = .ok (.invokevirtual 80, 3) := by decide +kernel
theorem dX7_init_188 : decode cX7_init 188 = .ok (.return_, 1) := by decide +kernel
theorem dX7_in_0 : decode cX7_in 0 = .ok (.iload_n 0, 1) := by decide +kernel
theorem dX7_in_1 : decode cX7_in 1 = .ok (.iload_n 1, 1) := by decide +kernel
theorem dX7_in_2 : decode cX7_in 2 = .ok (.if_icmp .lt 12, 3) := by decide +kernel
theorem dX7_in_5 : decode cX7_in 5 = .ok (.iload_n 0, 1) := by decide +kernel
theorem dX7_in_6 : decode cX7_in 6 = .ok (.iload_n 2, 1) := by decide +kernel
theorem dX7_in_7 : decode cX7_in 7 = .ok (.if_icmp .gt 7, 3) := by decide +kernel
theorem dX7_in_10 : decode cX7_in 10 = .ok (.iconst 1, 1) := by decide +kernel
theorem dX7_in_11 : decode cX7_in 11 = .ok (.goto 4, 3) := by decide +kernel
theorem dX7_in_14 : decode cX7_in 14 = .ok (.iconst 0, 1) := by decide +kernel
theorem dX7_in_15 : decode cX7_in 15 = .ok (.ireturn, 1) := by decide +kernel
theorem dX7_has_0 : decode cX7_has 0 = .ok (.iload_n 0, 1) := by decide +kernel
theorem dX7_has_1 : decode cX7_has 1 = .ok (.iload_n 1, 1) := by decide +kernel
theorem dX7_has_2 : decode cX7_has 2 = .ok (.ishr, 1) := by decide +kernel
theorem dX7_has_3 : decode cX7_has 3 = .ok (.iconst 1, 1) := by decide +kernel
theorem dX7_has_4 : decode cX7_has 4 = .ok (.iand, 1) := by decide +kernel
theorem dX7_has_5 : decode cX7_has 5 = .ok (.iconst 1, 1) := by decide +kernel
theorem dX7_has_6 : decode cX7_has 6 = .ok (.if_icmp .ne 7, 3) := by decide +kernel
theorem dX7_has_9 : decode cX7_has 9 = .ok (.iconst 1, 1) := by decide +kernel
theorem dX7_has_10 : decode cX7_has 10 = .ok (.goto 4, 3) := by decide +kernel
theorem dX7_has_13 : decode cX7_has 13 = .ok (.iconst 0, 1) := by decide +kernel
theorem dX7_has_14 : decode cX7_has 14 = .ok (.ireturn, 1) := by decide +kernel
theorem dX7_bitsOf_0 : decode cX7_bitsOf 0 = .ok (.iconst 0, 1) := by decide +kernel
theorem dX7_bitsOf_1 : decode cX7_bitsOf 1 = .ok (.istore_n 1, 1) := by decide +kernel
theorem dX7_bitsOf_2 : decode cX7_bitsOf 2 = .ok (.iconst 0, 1) := by decide +kernel
theorem dX7_bitsOf_3 : decode cX7_bitsOf 3 = .ok (.istore_n 2, 1) := by decide +kernel
theorem dX7_bitsOf_4 : decode cX7_bitsOf 4 = .ok (.iload_n 2, 1) := by decide +kernel
theorem dX7_bitsOf_5 : decode cX7_bitsOf 5 = .ok (.bipush 8, 2) := by decide +kernel
theorem dX7_bitsOf_7 : decode cX7_bitsOf 7 = .ok (.if_icmp .ge 17, 3) := by decide +kernel
theorem dX7_bitsOf_10 : decode cX7_bitsOf 10 = .ok (.iload_n 1, 1) := by decide +kernel
theorem dX7_bitsOf_11 : decode cX7_bitsOf 11 = .ok (.iload_n 0, 1) := by decide +kernel
theorem dX7_bitsOf_12 : decode cX7_bitsOf 12 = .ok (.iload_n 2, 1) := by decide +kernel
theorem dX7_bitsOf_13 : decode cX7_bitsOf 13 = .ok (.ishr, 1) := by decide +kernel
theorem dX7_bitsOf_14 : decode cX7_bitsOf 14 = .ok (.iconst 1, 1) := by decide +kernel
theorem dX7_bitsOf_15 : decode cX7_bitsOf 15 = .ok (.iand, 1) := by decide +kernel
theorem dX7_bitsOf_16 : decode cX7_bitsOf 16 = .ok (.iadd, 1) := by decide +kernel
theorem dX7_bitsOf_17 : decode cX7_bitsOf 17 = .ok (.istore_n 1, 1) := by decide +kernel
theorem dX7_bitsOf_18 : decode cX7_bitsOf 18 = .ok (.iinc 2 1, 3) := by decide +kernel
theorem dX7_bitsOf_21 : decode cX7_bitsOf 21 = .ok (.goto (-17), 3) := by decide +kernel
theorem dX7_bitsOf_24 : decode cX7_bitsOf 24 = .ok (.iload_n 1, 1) := by decide +kernel
theorem dX7_bitsOf_25 : decode cX7_bitsOf 25 = .ok (.ireturn, 1) := by decide +kernel
theorem dX7_write_0 : decode cX7_write 0 = .ok (.iload_n 1, 1) := by decide +kernel
theorem dX7_write_1 : decode cX7_write 1 = .ok (.bipush 32, 2) := by decide +kernel
theorem dX7_write_3 : decode cX7_write 3 = .ok (.bipush 126, 2) := by decide +kernel
theorem dX7_write_5 : decode cX7_write 5 = .ok (.invokestatic 83, 3) := by decide +kernel
theorem dX7_write_8 : decode cX7_write 8 = .ok (.ifCond .ne 5, 3) := by decide +kernel
theorem dX7_write_11 : decode cX7_write 11 = .ok (.iconst (-1), 1) := by decide +kernel
theorem dX7_write_12 : decode cX7_write 12 = .ok (.ireturn, 1) := by decide +kernel
theorem dX7_write_13 : decode cX7_write 13 = .ok (.aload_n 0, 1) := by decide +kernel
theorem dX7_write_14 : decode cX7_write 14 = .ok (.getfield 87, 3) := by decide +kernel
theorem dX7_write_17 : decode cX7_write 17 = .ok (.sipush 200, 3) := by decide +kernel
theorem dX7_write_20 : decode cX7_write 20 = .ok (.if_icmp .ne 6, 3) := by decide +kernel
theorem dX7_write_23 : decode cX7_write 23 = .ok (.bipush (-3), 2) := by decide +kernel
theorem dX7_write_25 : decode cX7_write 25 = .ok (.ireturn, 1) := by decide +kernel
theorem dX7_write_26 : decode cX7_write 26 = .ok (.aload_n 0, 1) := by decide +kernel
theorem dX7_write_27 : decode cX7_write 27 = .ok (.getfield 7, 3) := by decide +kernel
theorem dX7_write_30 : decode cX7_write 30 = .ok (.aload_n 0, 1) := by decide +kernel
theorem dX7_write_31 : decode cX7_write 31 = .ok (.getfield 87, 3) := by decide +kernel
theorem dX7_write_34 : decode cX7_write 34 = .ok (.iload_n 1, 1) := by decide +kernel
theorem dX7_write_35 : decode cX7_write 35 = .ok (.i2b, 1) := by decide +kernel
theorem dX7_write_36 : decode cX7_write 36 = .ok (.bastore, 1) := by decide +kernel
theorem dX7_write_37 : decode cX7_write 37 = .ok (.aload_n 0, 1) := by decide +kernel
theorem dX7_write_38 : decode cX7_write 38 = .ok (.dup, 1) := by decide +kernel
theorem dX7_write_39 : decode cX7_write 39 = .ok (.getfield 87, 3) := by decide +kernel
theorem dX7_write_42 : decode cX7_write 42 = .ok (.iconst 1, 1) := by decide +kernel
theorem dX7_write_43 : decode cX7_write 43 = .ok (.iadd, 1) := by decide +kernel
theorem dX7_write_44 : decode cX7_write 44 = .ok (.putfield 87, 3) := by decide +kernel
theorem dX7_write_47 : decode cX7_write 47 = .ok (.aload_n 0, 1) := by decide +kernel
theorem dX7_write_48 : decode cX7_write 48 = .ok (.getfield 87, 3) := by decide +kernel
theorem dX7_write_51 : decode cX7_write 51 = .ok (.ireturn, 1) := by decide +kernel
theorem dX7_wipe_0 : decode cX7_wipe 0 = .ok (.aload_n 0, 1) := by decide +kernel
theorem dX7_wipe_1 : decode cX7_wipe 1 = .ok (.getfield 87, 3) := by decide +kernel
theorem dX7_wipe_4 : decode cX7_wipe 4 = .ok (.istore_n 1, 1) := by decide +kernel
theorem dX7_wipe_5 : decode cX7_wipe 5 = .ok (.aload_n 0, 1) := by decide +kernel
theorem dX7_wipe_6 : decode cX7_wipe 6 = .ok (.iconst 0, 1) := by decide +kernel
theorem dX7_wipe_7 : decode cX7_wipe 7 = .ok (.putfield 87, 3) := by decide +kernel
theorem dX7_wipe_10 : decode cX7_wipe 10 = .ok (.iload_n 1, 1) := by decide +kernel
theorem dX7_wipe_11 : decode cX7_wipe 11 = .ok (.ireturn, 1) := by decide +kernel
theorem dX7_here_0 : decode cX7_here 0 = .ok (.aload_n 0, 1) := by decide +kernel
theorem dX7_here_1 : decode cX7_here 1 = .ok (.getfield 91, 3) := by decide +kernel
theorem dX7_here_4 : decode cX7_here 4 = .ok (.aload_n 0, 1) := by decide +kernel
theorem dX7_here_5 : decode cX7_here 5 = .ok (.getfield 87, 3) := by decide +kernel
theorem dX7_here_8 : decode cX7_here 8 = .ok (.if_icmp .ge 15, 3) := by decide +kernel
theorem dX7_here_11 : decode cX7_here 11 = .ok (.aload_n 0, 1) := by decide +kernel
theorem dX7_here_12 : decode cX7_here 12 = .ok (.getfield 7, 3) := by decide +kernel
theorem dX7_here_15 : decode cX7_here 15 = .ok (.aload_n 0, 1) := by decide +kernel
theorem dX7_here_16 : decode cX7_here 16 = .ok (.getfield 91, 3) := by decide +kernel
theorem dX7_here_19 : decode cX7_here 19 = .ok (.baload, 1) := by decide +kernel
theorem dX7_here_20 : decode cX7_here 20 = .ok (.goto 5, 3) := by decide +kernel
theorem dX7_here_23 : decode cX7_here 23 = .ok (.bipush (-4), 2) := by decide +kernel
theorem dX7_here_25 : decode cX7_here 25 = .ok (.ireturn, 1) := by decide +kernel
theorem dX7_isFigure_0 : decode cX7_isFigure 0 = .ok (.aload_n 0, 1) := by decide +kernel
theorem dX7_isFigure_1 : decode cX7_isFigure 1 = .ok (.invokevirtual 94, 3) := by decide +kernel
theorem dX7_isFigure_4 : decode cX7_isFigure 4 = .ok (.bipush 48, 2) := by decide +kernel
theorem dX7_isFigure_6 : decode cX7_isFigure 6 = .ok (.bipush 57, 2) := by decide +kernel
theorem dX7_isFigure_8 : decode cX7_isFigure 8 = .ok (.invokestatic 83, 3) := by decide +kernel
theorem dX7_isFigure_11 : decode cX7_isFigure 11 = .ok (.ireturn, 1) := by decide +kernel
theorem dX7_due_0 : decode cX7_due 0 = .ok (.aload_n 0, 1) := by decide +kernel
theorem dX7_due_1 : decode cX7_due 1 = .ok (.aload_n 0, 1) := by decide +kernel
theorem dX7_due_2 : decode cX7_due 2 = .ok (.getfield 98, 3) := by decide +kernel
theorem dX7_due_5 : decode cX7_due 5 = .ok (.ifCond .ne 11, 3) := by decide +kernel
theorem dX7_due_8 : decode cX7_due 8 = .ok (.aload_n 0, 1) := by decide +kernel
theorem dX7_due_9 : decode cX7_due 9 = .ok (.invokevirtual 94, 3) := by decide +kernel
theorem dX7_due_12 : decode cX7_due 12 = .ok (.iload_n 1, 1) := by decide +kernel
theorem dX7_due_13 : decode cX7_due 13 = .ok (.if_icmp .eq 7, 3) := by decide +kernel
theorem dX7_due_16 : decode cX7_due 16 = .ok (.iconst 1, 1) := by decide +kernel
theorem dX7_due_17 : decode cX7_due 17 = .ok (.goto 4, 3) := by decide +kernel
theorem dX7_due_20 : decode cX7_due 20 = .ok (.iconst 0, 1) := by decide +kernel
theorem dX7_due_21 : decode cX7_due 21 = .ok (.putfield 98, 3) := by decide +kernel
theorem dX7_due_24 : decode cX7_due 24 = .ok (.aload_n 0, 1) := by decide +kernel
theorem dX7_due_25 : decode cX7_due 25 = .ok (.dup, 1) := by decide +kernel
theorem dX7_due_26 : decode cX7_due 26 = .ok (.getfield 91, 3) := by decide +kernel
theorem dX7_due_29 : decode cX7_due 29 = .ok (.iconst 1, 1) := by decide +kernel
theorem dX7_due_30 : decode cX7_due 30 = .ok (.iadd, 1) := by decide +kernel
theorem dX7_due_31 : decode cX7_due 31 = .ok (.putfield 91, 3) := by decide +kernel
theorem dX7_due_34 : decode cX7_due 34 = .ok (.return_, 1) := by decide +kernel
theorem dX7_number_0 : decode cX7_number 0 = .ok (.bipush (-4), 2) := by decide +kernel
theorem dX7_number_2 : decode cX7_number 2 = .ok (.istore_n 3, 1) := by decide +kernel
theorem dX7_number_3 : decode cX7_number 3 = .ok (.iconst 0, 1) := by decide +kernel
theorem dX7_number_4 : decode cX7_number 4 = .ok (.istore 4, 2) := by decide +kernel
theorem dX7_number_6 : decode cX7_number 6 = .ok (.iload 4, 2) := by decide +kernel
theorem dX7_number_8 : decode cX7_number 8 = .ok (.iconst 2, 1) := by decide +kernel
theorem dX7_number_9 : decode cX7_number 9 = .ok (.if_icmp .ge 49, 3) := by decide +kernel
theorem dX7_number_12 : decode cX7_number 12 = .ok (.aload_n 0, 1) := by decide +kernel
theorem dX7_number_13 : decode cX7_number 13 = .ok (.invokevirtual 102, 3) := by decide +kernel
theorem dX7_number_16 : decode cX7_number 16 = .ok (.ifCond .eq 42, 3) := by decide +kernel
theorem dX7_number_19 : decode cX7_number 19 = .ok (.iload_n 3, 1) := by decide +kernel
theorem dX7_number_20 : decode cX7_number 20 = .ok (.bipush (-4), 2) := by decide +kernel
theorem dX7_number_22 : decode cX7_number 22 = .ok (.if_icmp .ne 7, 3) := by decide +kernel
theorem dX7_number_25 : decode cX7_number 25 = .ok (.iconst 0, 1) := by decide +kernel
theorem dX7_number_26 : decode cX7_number 26 = .ok (.goto 7, 3) := by decide +kernel
theorem dX7_number_29 : decode cX7_number 29 = .ok (.bipush 10, 2) := by decide +kernel
theorem dX7_number_31 : decode cX7_number 31 = .ok (.iload_n 3, 1) := by decide +kernel
theorem dX7_number_32 : decode cX7_number 32 = .ok (.imul, 1) := by decide +kernel
theorem dX7_number_33 : decode cX7_number 33 = .ok (.aload_n 0, 1) := by decide +kernel
theorem dX7_number_34 : decode cX7_number 34 = .ok (.invokevirtual 94, 3) := by decide +kernel
theorem dX7_number_37 : decode cX7_number 37 = .ok (.iadd, 1) := by decide +kernel
theorem dX7_number_38 : decode cX7_number 38 = .ok (.bipush 48, 2) := by decide +kernel
theorem dX7_number_40 : decode cX7_number 40 = .ok (.isub, 1) := by decide +kernel
theorem dX7_number_41 : decode cX7_number 41 = .ok (.istore_n 3, 1) := by decide +kernel
theorem dX7_number_42 : decode cX7_number 42 = .ok (.aload_n 0, 1) := by decide +kernel
theorem dX7_number_43 : decode cX7_number 43 = .ok (.dup, 1) := by decide +kernel
theorem dX7_number_44 : decode cX7_number 44 = .ok (.getfield 91, 3) := by decide +kernel
theorem dX7_number_47 : decode cX7_number 47 = .ok (.iconst 1, 1) := by decide +kernel
theorem dX7_number_48 : decode cX7_number 48 = .ok (.iadd, 1) := by decide +kernel
theorem dX7_number_49 : decode cX7_number 49 = .ok (.putfield 91, 3) := by decide +kernel
theorem dX7_number_52 : decode cX7_number 52 = .ok (.iinc 4 1, 3) := by decide +kernel
theorem dX7_number_55 : decode cX7_number 55 = .ok (.goto (-49), 3) := by decide +kernel
theorem dX7_number_58 : decode cX7_number 58 = .ok (.iload_n 3, 1) := by decide +kernel
theorem dX7_number_59 : decode cX7_number 59 = .ok (.iload_n 1, 1) := by decide +kernel
theorem dX7_number_60 : decode cX7_number 60 = .ok (.iload_n 2, 1) := by decide +kernel
theorem dX7_number_61 : decode cX7_number 61 = .ok (.invokestatic 83, 3) := by decide +kernel
theorem dX7_number_64 : decode cX7_number 64 = .ok (.istore 4, 2) := by decide +kernel
theorem dX7_number_66 : decode cX7_number 66 = .ok (.aload_n 0, 1) := by decide +kernel
theorem dX7_number_67 : decode cX7_number 67 = .ok (.aload_n 0, 1) := by decide +kernel
theorem dX7_number_68 : decode cX7_number 68 = .ok (.getfield 98, 3) := by decide +kernel
theorem dX7_number_71 : decode cX7_number 71 = .ok (.ifCond .ne 8, 3) := by decide +kernel
theorem dX7_number_74 : decode cX7_number 74 = .ok (.iload 4, 2) := by decide +kernel
theorem dX7_number_76 : decode cX7_number 76 = .ok (.ifCond .ne 7, 3) := by decide +kernel
theorem dX7_number_79 : decode cX7_number 79 = .ok (.iconst 1, 1) := by decide +kernel
theorem dX7_number_80 : decode cX7_number 80 = .ok (.goto 4, 3) := by decide +kernel
theorem dX7_number_83 : decode cX7_number 83 = .ok (.iconst 0, 1) := by decide +kernel
theorem dX7_number_84 : decode cX7_number 84 = .ok (.putfield 98, 3) := by decide +kernel
theorem dX7_number_87 : decode cX7_number 87 = .ok (.iload 4, 2) := by decide +kernel
theorem dX7_number_89 : decode cX7_number 89 = .ok (.ifCond .eq 7, 3) := by decide +kernel
theorem dX7_number_92 : decode cX7_number 92 = .ok (.iload_n 3, 1) := by decide +kernel
theorem dX7_number_93 : decode cX7_number 93 = .ok (.goto 4, 3) := by decide +kernel
theorem dX7_number_96 : decode cX7_number 96 = .ok (.iconst 0, 1) := by decide +kernel
theorem dX7_number_97 : decode cX7_number 97 = .ok (.ireturn, 1) := by decide +kernel
theorem dX7_readRoad_0 : decode cX7_readRoad 0 = .ok (.aload_n 0, 1) := by decide +kernel
theorem dX7_readRoad_1 : decode cX7_readRoad 1 = .ok (.iconst 0, 1) := by decide +kernel
theorem dX7_readRoad_2 : decode cX7_readRoad 2 = .ok (.aload_n 0, 1) := by decide +kernel
theorem dX7_readRoad_3 : decode cX7_readRoad 3 = .ok (.getfield 13, 3) := by decide +kernel
theorem dX7_readRoad_6 : decode cX7_readRoad 6 = .ok (.iconst 1, 1) := by decide +kernel
theorem dX7_readRoad_7 : decode cX7_readRoad 7 = .ok (.iaload, 1) := by decide +kernel
theorem dX7_readRoad_8 : decode cX7_readRoad 8 = .ok (.iconst 1, 1) := by decide +kernel
theorem dX7_readRoad_9 : decode cX7_readRoad 9 = .ok (.isub, 1) := by decide +kernel
theorem dX7_readRoad_10 : decode cX7_readRoad 10 = .ok (.invokevirtual 106, 3) := by decide +kernel
theorem dX7_readRoad_13 : decode cX7_readRoad 13 = .ok (.istore_n 1, 1) := by decide +kernel
theorem dX7_readRoad_14 : decode cX7_readRoad 14 = .ok (.aload_n 0, 1) := by decide +kernel
theorem dX7_readRoad_15 : decode cX7_readRoad 15 = .ok (.bipush 44, 2) := by decide +kernel
theorem dX7_readRoad_17 : decode cX7_readRoad 17 = .ok (.invokevirtual 110, 3) := by decide +kernel
theorem dX7_readRoad_20 : decode cX7_readRoad 20 = .ok (.aload_n 0, 1) := by decide +kernel
theorem dX7_readRoad_21 : decode cX7_readRoad 21 = .ok (.iconst 0, 1) := by decide +kernel
theorem dX7_readRoad_22 : decode cX7_readRoad 22 = .ok (.aload_n 0, 1) := by decide +kernel
theorem dX7_readRoad_23 : decode cX7_readRoad 23 = .ok (.getfield 13, 3) := by decide +kernel
theorem dX7_readRoad_26 : decode cX7_readRoad 26 = .ok (.iconst 1, 1) := by decide +kernel
theorem dX7_readRoad_27 : decode cX7_readRoad 27 = .ok (.iaload, 1) := by decide +kernel
theorem dX7_readRoad_28 : decode cX7_readRoad 28 = .ok (.iconst 1, 1) := by decide +kernel
theorem dX7_readRoad_29 : decode cX7_readRoad 29 = .ok (.isub, 1) := by decide +kernel
theorem dX7_readRoad_30 : decode cX7_readRoad 30 = .ok (.invokevirtual 106, 3) := by decide +kernel
theorem dX7_readRoad_33 : decode cX7_readRoad 33 = .ok (.istore_n 2, 1) := by decide +kernel
theorem dX7_readRoad_34 : decode cX7_readRoad 34 = .ok (.aload_n 0, 1) := by decide +kernel
theorem dX7_readRoad_35 : decode cX7_readRoad 35 = .ok (.bipush 44, 2) := by decide +kernel
theorem dX7_readRoad_37 : decode cX7_readRoad 37 = .ok (.invokevirtual 110, 3) := by decide +kernel
theorem dX7_readRoad_40 : decode cX7_readRoad 40 = .ok (.aload_n 0, 1) := by decide +kernel
theorem dX7_readRoad_41 : decode cX7_readRoad 41 = .ok (.iconst 1, 1) := by decide +kernel
theorem dX7_readRoad_42 : decode cX7_readRoad 42 = .ok (.bipush 9, 2) := by decide +kernel
theorem dX7_readRoad_44 : decode cX7_readRoad 44 = .ok (.invokevirtual 106, 3) := by decide +kernel
theorem dX7_readRoad_47 : decode cX7_readRoad 47 = .ok (.istore_n 3, 1) := by decide +kernel
theorem dX7_readRoad_48 : decode cX7_readRoad 48 = .ok (.aload_n 0, 1) := by decide +kernel
theorem dX7_readRoad_49 : decode cX7_readRoad 49 = .ok (.aload_n 0, 1) := by decide +kernel
theorem dX7_readRoad_50 : decode cX7_readRoad 50 = .ok (.getfield 98, 3) := by decide +kernel
theorem dX7_readRoad_53 : decode cX7_readRoad 53 = .ok (.ifCond .ne 8, 3) := by decide +kernel
theorem dX7_readRoad_56 : decode cX7_readRoad 56 = .ok (.iload_n 1, 1) := by decide +kernel
theorem dX7_readRoad_57 : decode cX7_readRoad 57 = .ok (.iload_n 2, 1) := by decide +kernel
theorem dX7_readRoad_58 : decode cX7_readRoad 58 = .ok (.if_icmp .ne 7, 3) := by decide +kernel
theorem dX7_readRoad_61 : decode cX7_readRoad 61 = .ok (.iconst 1, 1) := by decide +kernel
theorem dX7_readRoad_62 : decode cX7_readRoad 62 = .ok (.goto 4, 3) := by decide +kernel
theorem dX7_readRoad_65 : decode cX7_readRoad 65 = .ok (.iconst 0, 1) := by decide +kernel
theorem dX7_readRoad_66 : decode cX7_readRoad 66 = .ok (.putfield 98, 3) := by decide +kernel
theorem dX7_readRoad_69 : decode cX7_readRoad 69 = .ok (.aload_n 0, 1) := by decide +kernel
theorem dX7_readRoad_70 : decode cX7_readRoad 70 = .ok (.getfield 98, 3) := by decide +kernel
theorem dX7_readRoad_73 : decode cX7_readRoad 73 = .ok (.ifCond .ne 27, 3) := by decide +kernel
theorem dX7_readRoad_76 : decode cX7_readRoad 76 = .ok (.aload_n 0, 1) := by decide +kernel
theorem dX7_readRoad_77 : decode cX7_readRoad 77 = .ok (.getfield 29, 3) := by decide +kernel
theorem dX7_readRoad_80 : decode cX7_readRoad 80 = .ok (.bipush 8, 2) := by decide +kernel
theorem dX7_readRoad_82 : decode cX7_readRoad 82 = .ok (.iload_n 1, 1) := by decide +kernel
theorem dX7_readRoad_83 : decode cX7_readRoad 83 = .ok (.imul, 1) := by decide +kernel
theorem dX7_readRoad_84 : decode cX7_readRoad 84 = .ok (.iload_n 2, 1) := by decide +kernel
theorem dX7_readRoad_85 : decode cX7_readRoad 85 = .ok (.iadd, 1) := by decide +kernel
theorem dX7_readRoad_86 : decode cX7_readRoad 86 = .ok (.iload_n 3, 1) := by decide +kernel
theorem dX7_readRoad_87 : decode cX7_readRoad 87 = .ok (.iastore, 1) := by decide +kernel
theorem dX7_readRoad_88 : decode cX7_readRoad 88 = .ok (.aload_n 0, 1) := by decide +kernel
theorem dX7_readRoad_89 : decode cX7_readRoad 89 = .ok (.getfield 29, 3) := by decide +kernel
theorem dX7_readRoad_92 : decode cX7_readRoad 92 = .ok (.bipush 8, 2) := by decide +kernel
theorem dX7_readRoad_94 : decode cX7_readRoad 94 = .ok (.iload_n 2, 1) := by decide +kernel
theorem dX7_readRoad_95 : decode cX7_readRoad 95 = .ok (.imul, 1) := by decide +kernel
theorem dX7_readRoad_96 : decode cX7_readRoad 96 = .ok (.iload_n 1, 1) := by decide +kernel
theorem dX7_readRoad_97 : decode cX7_readRoad 97 = .ok (.iadd, 1) := by decide +kernel
theorem dX7_readRoad_98 : decode cX7_readRoad 98 = .ok (.iload_n 3, 1) := by decide +kernel
theorem dX7_readRoad_99 : decode cX7_readRoad 99 = .ok (.iastore, 1) := by decide +kernel
theorem dX7_readRoad_100 : decode cX7_readRoad 100 = .ok (.return_, 1) := by decide +kernel
theorem dX7_readPost_0 : decode cX7_readPost 0 = .ok (.aload_n 0, 1) := by decide +kernel
theorem dX7_readPost_1 : decode cX7_readPost 1 = .ok (.getfield 17, 3) := by decide +kernel
theorem dX7_readPost_4 : decode cX7_readPost 4 = .ok (.iconst 1, 1) := by decide +kernel
theorem dX7_readPost_5 : decode cX7_readPost 5 = .ok (.iaload, 1) := by decide +kernel
theorem dX7_readPost_6 : decode cX7_readPost 6 = .ok (.bipush 6, 2) := by decide +kernel
theorem dX7_readPost_8 : decode cX7_readPost 8 = .ok (.if_icmp .ne 9, 3) := by decide +kernel
theorem dX7_readPost_11 : decode cX7_readPost 11 = .ok (.aload_n 0, 1) := by decide +kernel
theorem dX7_readPost_12 : decode cX7_readPost 12 = .ok (.iconst 1, 1) := by decide +kernel
theorem dX7_readPost_13 : decode cX7_readPost 13 = .ok (.putfield 98, 3) := by decide +kernel
theorem dX7_readPost_16 : decode cX7_readPost 16 = .ok (.return_, 1) := by decide +kernel
theorem dX7_readPost_17 : decode cX7_readPost 17 = .ok (.aload_n 0, 1) := by decide +kernel
theorem dX7_readPost_18 : decode cX7_readPost 18 = .ok (.getfield 23, 3) := by decide +kernel
theorem dX7_readPost_21 : decode cX7_readPost 21 = .ok (.bipush 6, 2) := by decide +kernel
theorem dX7_readPost_23 : decode cX7_readPost 23 = .ok (.aload_n 0, 1) := by decide +kernel
theorem dX7_readPost_24 : decode cX7_readPost 24 = .ok (.getfield 17, 3) := by decide +kernel
theorem dX7_readPost_27 : decode cX7_readPost 27 = .ok (.iconst 1, 1) := by decide +kernel
theorem dX7_readPost_28 : decode cX7_readPost 28 = .ok (.iaload, 1) := by decide +kernel
theorem dX7_readPost_29 : decode cX7_readPost 29 = .ok (.iadd, 1) := by decide +kernel
theorem dX7_readPost_30 : decode cX7_readPost 30 = .ok (.aload_n 0, 1) := by decide +kernel
theorem dX7_readPost_31 : decode cX7_readPost 31 = .ok (.iconst 0, 1) := by decide +kernel
theorem dX7_readPost_32 : decode cX7_readPost 32 = .ok (.iconst 3, 1) := by decide +kernel
theorem dX7_readPost_33 : decode cX7_readPost 33 = .ok (.invokevirtual 106, 3) := by decide +kernel
theorem dX7_readPost_36 : decode cX7_readPost 36 = .ok (.iastore, 1) := by decide +kernel
theorem dX7_readPost_37 : decode cX7_readPost 37 = .ok (.aload_n 0, 1) := by decide +kernel
theorem dX7_readPost_38 : decode cX7_readPost 38 = .ok (.bipush 44, 2) := by decide +kernel
theorem dX7_readPost_40 : decode cX7_readPost 40 = .ok (.invokevirtual 110, 3) := by decide +kernel
theorem dX7_readPost_43 : decode cX7_readPost 43 = .ok (.aload_n 0, 1) := by decide +kernel
theorem dX7_readPost_44 : decode cX7_readPost 44 = .ok (.getfield 32, 3) := by decide +kernel
theorem dX7_readPost_47 : decode cX7_readPost 47 = .ok (.aload_n 0, 1) := by decide +kernel
theorem dX7_readPost_48 : decode cX7_readPost 48 = .ok (.getfield 17, 3) := by decide +kernel
theorem dX7_readPost_51 : decode cX7_readPost 51 = .ok (.iconst 1, 1) := by decide +kernel
theorem dX7_readPost_52 : decode cX7_readPost 52 = .ok (.iaload, 1) := by decide +kernel
theorem dX7_readPost_53 : decode cX7_readPost 53 = .ok (.aload_n 0, 1) := by decide +kernel
theorem dX7_readPost_54 : decode cX7_readPost 54 = .ok (.iconst 0, 1) := by decide +kernel
theorem dX7_readPost_55 : decode cX7_readPost 55 = .ok (.aload_n 0, 1) := by decide +kernel
theorem dX7_readPost_56 : decode cX7_readPost 56 = .ok (.getfield 13, 3) := by decide +kernel
theorem dX7_readPost_59 : decode cX7_readPost 59 = .ok (.iconst 1, 1) := by decide +kernel
theorem dX7_readPost_60 : decode cX7_readPost 60 = .ok (.iaload, 1) := by decide +kernel
theorem dX7_readPost_61 : decode cX7_readPost 61 = .ok (.iconst 1, 1) := by decide +kernel
theorem dX7_readPost_62 : decode cX7_readPost 62 = .ok (.isub, 1) := by decide +kernel
theorem dX7_readPost_63 : decode cX7_readPost 63 = .ok (.invokevirtual 106, 3) := by decide +kernel
theorem dX7_readPost_66 : decode cX7_readPost 66 = .ok (.iastore, 1) := by decide +kernel
theorem dX7_readPost_67 : decode cX7_readPost 67 = .ok (.aload_n 0, 1) := by decide +kernel
theorem dX7_readPost_68 : decode cX7_readPost 68 = .ok (.bipush 44, 2) := by decide +kernel
theorem dX7_readPost_70 : decode cX7_readPost 70 = .ok (.invokevirtual 110, 3) := by decide +kernel
theorem dX7_readPost_73 : decode cX7_readPost 73 = .ok (.aload_n 0, 1) := by decide +kernel
theorem dX7_readPost_74 : decode cX7_readPost 74 = .ok (.getfield 35, 3) := by decide +kernel
theorem dX7_readPost_77 : decode cX7_readPost 77 = .ok (.aload_n 0, 1) := by decide +kernel
theorem dX7_readPost_78 : decode cX7_readPost 78 = .ok (.getfield 17, 3) := by decide +kernel
theorem dX7_readPost_81 : decode cX7_readPost 81 = .ok (.iconst 1, 1) := by decide +kernel
theorem dX7_readPost_82 : decode cX7_readPost 82 = .ok (.iaload, 1) := by decide +kernel
theorem dX7_readPost_83 : decode cX7_readPost 83 = .ok (.aload_n 0, 1) := by decide +kernel
theorem dX7_readPost_84 : decode cX7_readPost 84 = .ok (.iconst 0, 1) := by decide +kernel
theorem dX7_readPost_85 : decode cX7_readPost 85 = .ok (.bipush 59, 2) := by decide +kernel
theorem dX7_readPost_87 : decode cX7_readPost 87 = .ok (.invokevirtual 106, 3) := by decide +kernel
theorem dX7_readPost_90 : decode cX7_readPost 90 = .ok (.iastore, 1) := by decide +kernel
theorem dX7_readPost_91 : decode cX7_readPost 91 = .ok (.aload_n 0, 1) := by decide +kernel
theorem dX7_readPost_92 : decode cX7_readPost 92 = .ok (.getfield 17, 3) := by decide +kernel
theorem dX7_readPost_95 : decode cX7_readPost 95 = .ok (.iconst 1, 1) := by decide +kernel
theorem dX7_readPost_96 : decode cX7_readPost 96 = .ok (.dup2, 1) := by decide +kernel
theorem dX7_readPost_97 : decode cX7_readPost 97 = .ok (.iaload, 1) := by decide +kernel
theorem dX7_readPost_98 : decode cX7_readPost 98 = .ok (.iconst 1, 1) := by decide +kernel
theorem dX7_readPost_99 : decode cX7_readPost 99 = .ok (.iadd, 1) := by decide +kernel
theorem dX7_readPost_100 : decode cX7_readPost 100 = .ok (.iastore, 1) := by decide +kernel
theorem dX7_readPost_101 : decode cX7_readPost 101 = .ok (.return_, 1) := by decide +kernel
theorem dX7_readWalker_0 : decode cX7_readWalker 0 = .ok (.aload_n 0, 1) := by decide +kernel
theorem dX7_readWalker_1 : decode cX7_readWalker 1 = .ok (.getfield 20, 3) := by decide +kernel
theorem dX7_readWalker_4 : decode cX7_readWalker 4 = .ok (.iconst 1, 1) := by decide +kernel
theorem dX7_readWalker_5 : decode cX7_readWalker 5 = .ok (.iaload, 1) := by decide +kernel
theorem dX7_readWalker_6 : decode cX7_readWalker 6 = .ok (.iconst 5, 1) := by decide +kernel
theorem dX7_readWalker_7 : decode cX7_readWalker 7 = .ok (.if_icmp .ne 9, 3) := by decide +kernel
theorem dX7_readWalker_10 : decode cX7_readWalker 10 = .ok (.aload_n 0, 1) := by decide +kernel
theorem dX7_readWalker_11 : decode cX7_readWalker 11 = .ok (.iconst 1, 1) := by decide +kernel
theorem dX7_readWalker_12 : decode cX7_readWalker 12 = .ok (.putfield 98, 3) := by decide +kernel
theorem dX7_readWalker_15 : decode cX7_readWalker 15 = .ok (.return_, 1) := by decide +kernel
theorem dX7_readWalker_16 : decode cX7_readWalker 16 = .ok (.aload_n 0, 1) := by decide +kernel
theorem dX7_readWalker_17 : decode cX7_readWalker 17 = .ok (.iconst 0, 1) := by decide +kernel
theorem dX7_readWalker_18 : decode cX7_readWalker 18 = .ok (.aload_n 0, 1) := by decide +kernel
theorem dX7_readWalker_19 : decode cX7_readWalker 19 = .ok (.getfield 13, 3) := by decide +kernel
theorem dX7_readWalker_22 : decode cX7_readWalker 22 = .ok (.iconst 1, 1) := by decide +kernel
theorem dX7_readWalker_23 : decode cX7_readWalker 23 = .ok (.iaload, 1) := by decide +kernel
theorem dX7_readWalker_24 : decode cX7_readWalker 24 = .ok (.iconst 1, 1) := by decide +kernel
theorem dX7_readWalker_25 : decode cX7_readWalker 25 = .ok (.isub, 1) := by decide +kernel
theorem dX7_readWalker_26 : decode cX7_readWalker 26 = .ok (.invokevirtual 106, 3) := by decide +kernel
theorem dX7_readWalker_29 : decode cX7_readWalker 29 = .ok (.istore_n 1, 1) := by decide +kernel
theorem dX7_readWalker_30 : decode cX7_readWalker 30 = .ok (.aload_n 0, 1) := by decide +kernel
theorem dX7_readWalker_31 : decode cX7_readWalker 31 = .ok (.bipush 44, 2) := by decide +kernel
theorem dX7_readWalker_33 : decode cX7_readWalker 33 = .ok (.invokevirtual 110, 3) := by decide +kernel
theorem dX7_readWalker_36 : decode cX7_readWalker 36 = .ok (.aload_n 0, 1) := by decide +kernel
theorem dX7_readWalker_37 : decode cX7_readWalker 37 = .ok (.iconst 0, 1) := by decide +kernel
theorem dX7_readWalker_38 : decode cX7_readWalker 38 = .ok (.aload_n 0, 1) := by decide +kernel
theorem dX7_readWalker_39 : decode cX7_readWalker 39 = .ok (.getfield 13, 3) := by decide +kernel
theorem dX7_readWalker_42 : decode cX7_readWalker 42 = .ok (.iconst 1, 1) := by decide +kernel
theorem dX7_readWalker_43 : decode cX7_readWalker 43 = .ok (.iaload, 1) := by decide +kernel
theorem dX7_readWalker_44 : decode cX7_readWalker 44 = .ok (.iconst 1, 1) := by decide +kernel
theorem dX7_readWalker_45 : decode cX7_readWalker 45 = .ok (.isub, 1) := by decide +kernel
theorem dX7_readWalker_46 : decode cX7_readWalker 46 = .ok (.invokevirtual 106, 3) := by decide +kernel
theorem dX7_readWalker_49 : decode cX7_readWalker 49 = .ok (.istore_n 2, 1) := by decide +kernel
theorem dX7_readWalker_50 : decode cX7_readWalker 50 = .ok (.aload_n 0, 1) := by decide +kernel
theorem dX7_readWalker_51 : decode cX7_readWalker 51 = .ok (.aload_n 0, 1) := by decide +kernel
theorem dX7_readWalker_52 : decode cX7_readWalker 52 = .ok (.getfield 98, 3) := by decide +kernel
theorem dX7_readWalker_55 : decode cX7_readWalker 55 = .ok (.ifCond .ne 8, 3) := by decide +kernel
theorem dX7_readWalker_58 : decode cX7_readWalker 58 = .ok (.iload_n 1, 1) := by decide +kernel
theorem dX7_readWalker_59 : decode cX7_readWalker 59 = .ok (.iload_n 2, 1) := by decide +kernel
theorem dX7_readWalker_60 : decode cX7_readWalker 60 = .ok (.if_icmp .ne 7, 3) := by decide +kernel
theorem dX7_readWalker_63 : decode cX7_readWalker 63 = .ok (.iconst 1, 1) := by decide +kernel
theorem dX7_readWalker_64 : decode cX7_readWalker 64 = .ok (.goto 4, 3) := by decide +kernel
theorem dX7_readWalker_67 : decode cX7_readWalker 67 = .ok (.iconst 0, 1) := by decide +kernel
theorem dX7_readWalker_68 : decode cX7_readWalker 68 = .ok (.putfield 98, 3) := by decide +kernel
theorem dX7_readWalker_71 : decode cX7_readWalker 71 = .ok (.aload_n 0, 1) := by decide +kernel
theorem dX7_readWalker_72 : decode cX7_readWalker 72 = .ok (.getfield 38, 3) := by decide +kernel
theorem dX7_readWalker_75 : decode cX7_readWalker 75 = .ok (.aload_n 0, 1) := by decide +kernel
theorem dX7_readWalker_76 : decode cX7_readWalker 76 = .ok (.getfield 20, 3) := by decide +kernel
theorem dX7_readWalker_79 : decode cX7_readWalker 79 = .ok (.iconst 1, 1) := by decide +kernel
theorem dX7_readWalker_80 : decode cX7_readWalker 80 = .ok (.iaload, 1) := by decide +kernel
theorem dX7_readWalker_81 : decode cX7_readWalker 81 = .ok (.iload_n 1, 1) := by decide +kernel
theorem dX7_readWalker_82 : decode cX7_readWalker 82 = .ok (.iastore, 1) := by decide +kernel
theorem dX7_readWalker_83 : decode cX7_readWalker 83 = .ok (.aload_n 0, 1) := by decide +kernel
theorem dX7_readWalker_84 : decode cX7_readWalker 84 = .ok (.getfield 26, 3) := by decide +kernel
theorem dX7_readWalker_87 : decode cX7_readWalker 87 = .ok (.iconst 5, 1) := by decide +kernel
theorem dX7_readWalker_88 : decode cX7_readWalker 88 = .ok (.aload_n 0, 1) := by decide +kernel
theorem dX7_readWalker_89 : decode cX7_readWalker 89 = .ok (.getfield 20, 3) := by decide +kernel
theorem dX7_readWalker_92 : decode cX7_readWalker 92 = .ok (.iconst 1, 1) := by decide +kernel
theorem dX7_readWalker_93 : decode cX7_readWalker 93 = .ok (.iaload, 1) := by decide +kernel
theorem dX7_readWalker_94 : decode cX7_readWalker 94 = .ok (.iadd, 1) := by decide +kernel
theorem dX7_readWalker_95 : decode cX7_readWalker 95 = .ok (.iload_n 2, 1) := by decide +kernel
theorem dX7_readWalker_96 : decode cX7_readWalker 96 = .ok (.iastore, 1) := by decide +kernel
theorem dX7_readWalker_97 : decode cX7_readWalker 97 = .ok (.aload_n 0, 1) := by decide +kernel
theorem dX7_readWalker_98 : decode cX7_readWalker 98 = .ok (.getfield 20, 3) := by decide +kernel
theorem dX7_readWalker_101 : decode cX7_readWalker 101 = .ok (.iconst 1, 1) := by decide +kernel
theorem dX7_readWalker_102 : decode cX7_readWalker 102 = .ok (.dup2, 1) := by decide +kernel
theorem dX7_readWalker_103 : decode cX7_readWalker 103 = .ok (.iaload, 1) := by decide +kernel
theorem dX7_readWalker_104 : decode cX7_readWalker 104 = .ok (.iconst 1, 1) := by decide +kernel
theorem dX7_readWalker_105 : decode cX7_readWalker 105 = .ok (.iadd, 1) := by decide +kernel
theorem dX7_readWalker_106 : decode cX7_readWalker 106 = .ok (.iastore, 1) := by decide +kernel
theorem dX7_readWalker_107 : decode cX7_readWalker 107 = .ok (.return_, 1) := by decide +kernel
theorem dX7_readItem_0 : decode cX7_readItem 0 = .ok (.aload_n 0, 1) := by decide +kernel
theorem dX7_readItem_1 : decode cX7_readItem 1 = .ok (.invokevirtual 94, 3) := by decide +kernel
theorem dX7_readItem_4 : decode cX7_readItem 4 = .ok (.istore_n 1, 1) := by decide +kernel
theorem dX7_readItem_5 : decode cX7_readItem 5 = .ok (.aload_n 0, 1) := by decide +kernel
theorem dX7_readItem_6 : decode cX7_readItem 6 = .ok (.dup, 1) := by decide +kernel
theorem dX7_readItem_7 : decode cX7_readItem 7 = .ok (.getfield 91, 3) := by decide +kernel
theorem dX7_readItem_10 : decode cX7_readItem 10 = .ok (.iconst 1, 1) := by decide +kernel
theorem dX7_readItem_11 : decode cX7_readItem 11 = .ok (.iadd, 1) := by decide +kernel
theorem dX7_readItem_12 : decode cX7_readItem 12 = .ok (.putfield 91, 3) := by decide +kernel
theorem dX7_readItem_15 : decode cX7_readItem 15 = .ok (.iload_n 1, 1) := by decide +kernel
theorem dX7_readItem_16 : decode cX7_readItem 16 = .ok (.tableswitch 109 110 119 #[56, 109, 95, 109, 88, 109, 109, 109, 109, 102], 56) := by decide +kernel
theorem dX7_readItem_72 : decode cX7_readItem 72 = .ok (.aload_n 0, 1) := by decide +kernel
theorem dX7_readItem_73 : decode cX7_readItem 73 = .ok (.aload_n 0, 1) := by decide +kernel
theorem dX7_readItem_74 : decode cX7_readItem 74 = .ok (.getfield 114, 3) := by decide +kernel
theorem dX7_readItem_77 : decode cX7_readItem 77 = .ok (.ifCond .le 7, 3) := by decide +kernel
theorem dX7_readItem_80 : decode cX7_readItem 80 = .ok (.iconst 1, 1) := by decide +kernel
theorem dX7_readItem_81 : decode cX7_readItem 81 = .ok (.goto 4, 3) := by decide +kernel
theorem dX7_readItem_84 : decode cX7_readItem 84 = .ok (.iconst 0, 1) := by decide +kernel
theorem dX7_readItem_85 : decode cX7_readItem 85 = .ok (.putfield 98, 3) := by decide +kernel
theorem dX7_readItem_88 : decode cX7_readItem 88 = .ok (.aload_n 0, 1) := by decide +kernel
theorem dX7_readItem_89 : decode cX7_readItem 89 = .ok (.getfield 13, 3) := by decide +kernel
theorem dX7_readItem_92 : decode cX7_readItem 92 = .ok (.iconst 1, 1) := by decide +kernel
theorem dX7_readItem_93 : decode cX7_readItem 93 = .ok (.aload_n 0, 1) := by decide +kernel
theorem dX7_readItem_94 : decode cX7_readItem 94 = .ok (.iconst 2, 1) := by decide +kernel
theorem dX7_readItem_95 : decode cX7_readItem 95 = .ok (.bipush 8, 2) := by decide +kernel
theorem dX7_readItem_97 : decode cX7_readItem 97 = .ok (.invokevirtual 106, 3) := by decide +kernel
theorem dX7_readItem_100 : decode cX7_readItem 100 = .ok (.iastore, 1) := by decide +kernel
theorem dX7_readItem_101 : decode cX7_readItem 101 = .ok (.goto 29, 3) := by decide +kernel
theorem dX7_readItem_104 : decode cX7_readItem 104 = .ok (.aload_n 0, 1) := by decide +kernel
theorem dX7_readItem_105 : decode cX7_readItem 105 = .ok (.invokevirtual 117, 3) := by decide +kernel
theorem dX7_readItem_108 : decode cX7_readItem 108 = .ok (.goto 22, 3) := by decide +kernel
theorem dX7_readItem_111 : decode cX7_readItem 111 = .ok (.aload_n 0, 1) := by decide +kernel
theorem dX7_readItem_112 : decode cX7_readItem 112 = .ok (.invokevirtual 120, 3) := by decide +kernel
theorem dX7_readItem_115 : decode cX7_readItem 115 = .ok (.goto 15, 3) := by decide +kernel
theorem dX7_readItem_118 : decode cX7_readItem 118 = .ok (.aload_n 0, 1) := by decide +kernel
theorem dX7_readItem_119 : decode cX7_readItem 119 = .ok (.invokevirtual 123, 3) := by decide +kernel
theorem dX7_readItem_122 : decode cX7_readItem 122 = .ok (.goto 8, 3) := by decide +kernel
theorem dX7_readItem_125 : decode cX7_readItem 125 = .ok (.aload_n 0, 1) := by decide +kernel
theorem dX7_readItem_126 : decode cX7_readItem 126 = .ok (.iconst 1, 1) := by decide +kernel
theorem dX7_readItem_127 : decode cX7_readItem 127 = .ok (.putfield 98, 3) := by decide +kernel
theorem dX7_readItem_130 : decode cX7_readItem 130 = .ok (.aload_n 0, 1) := by decide +kernel
theorem dX7_readItem_131 : decode cX7_readItem 131 = .ok (.bipush 59, 2) := by decide +kernel
theorem dX7_readItem_133 : decode cX7_readItem 133 = .ok (.invokevirtual 110, 3) := by decide +kernel
theorem dX7_readItem_136 : decode cX7_readItem 136 = .ok (.aload_n 0, 1) := by decide +kernel
theorem dX7_readItem_137 : decode cX7_readItem 137 = .ok (.dup, 1) := by decide +kernel
theorem dX7_readItem_138 : decode cX7_readItem 138 = .ok (.getfield 114, 3) := by decide +kernel
theorem dX7_readItem_141 : decode cX7_readItem 141 = .ok (.iconst 1, 1) := by decide +kernel
theorem dX7_readItem_142 : decode cX7_readItem 142 = .ok (.iadd, 1) := by decide +kernel
theorem dX7_readItem_143 : decode cX7_readItem 143 = .ok (.putfield 114, 3) := by decide +kernel
theorem dX7_readItem_146 : decode cX7_readItem 146 = .ok (.return_, 1) := by decide +kernel
theorem dX7_begin_0 : decode cX7_begin 0 = .ok (.aload_n 0, 1) := by decide +kernel
theorem dX7_begin_1 : decode cX7_begin 1 = .ok (.iconst 0, 1) := by decide +kernel
theorem dX7_begin_2 : decode cX7_begin 2 = .ok (.putfield 114, 3) := by decide +kernel
theorem dX7_begin_5 : decode cX7_begin 5 = .ok (.aload_n 0, 1) := by decide +kernel
theorem dX7_begin_6 : decode cX7_begin 6 = .ok (.iconst 0, 1) := by decide +kernel
theorem dX7_begin_7 : decode cX7_begin 7 = .ok (.putfield 98, 3) := by decide +kernel
theorem dX7_begin_10 : decode cX7_begin 10 = .ok (.aload_n 0, 1) := by decide +kernel
theorem dX7_begin_11 : decode cX7_begin 11 = .ok (.getfield 13, 3) := by decide +kernel
theorem dX7_begin_14 : decode cX7_begin 14 = .ok (.iconst 1, 1) := by decide +kernel
theorem dX7_begin_15 : decode cX7_begin 15 = .ok (.bipush 6, 2) := by decide +kernel
theorem dX7_begin_17 : decode cX7_begin 17 = .ok (.iastore, 1) := by decide +kernel
theorem dX7_begin_18 : decode cX7_begin 18 = .ok (.aload_n 0, 1) := by decide +kernel
theorem dX7_begin_19 : decode cX7_begin 19 = .ok (.getfield 17, 3) := by decide +kernel
theorem dX7_begin_22 : decode cX7_begin 22 = .ok (.iconst 1, 1) := by decide +kernel
theorem dX7_begin_23 : decode cX7_begin 23 = .ok (.iconst 0, 1) := by decide +kernel
theorem dX7_begin_24 : decode cX7_begin 24 = .ok (.iastore, 1) := by decide +kernel
theorem dX7_begin_25 : decode cX7_begin 25 = .ok (.aload_n 0, 1) := by decide +kernel
theorem dX7_begin_26 : decode cX7_begin 26 = .ok (.getfield 20, 3) := by decide +kernel
theorem dX7_begin_29 : decode cX7_begin 29 = .ok (.iconst 1, 1) := by decide +kernel
theorem dX7_begin_30 : decode cX7_begin 30 = .ok (.iconst 0, 1) := by decide +kernel
theorem dX7_begin_31 : decode cX7_begin 31 = .ok (.iastore, 1) := by decide +kernel
theorem dX7_begin_32 : decode cX7_begin 32 = .ok (.iconst 0, 1) := by decide +kernel
theorem dX7_begin_33 : decode cX7_begin 33 = .ok (.istore_n 1, 1) := by decide +kernel
theorem dX7_begin_34 : decode cX7_begin 34 = .ok (.iload_n 1, 1) := by decide +kernel
theorem dX7_begin_35 : decode cX7_begin 35 = .ok (.bipush 64, 2) := by decide +kernel
theorem dX7_begin_37 : decode cX7_begin 37 = .ok (.if_icmp .ge 16, 3) := by decide +kernel
theorem dX7_begin_40 : decode cX7_begin 40 = .ok (.aload_n 0, 1) := by decide +kernel
theorem dX7_begin_41 : decode cX7_begin 41 = .ok (.getfield 29, 3) := by decide +kernel
theorem dX7_begin_44 : decode cX7_begin 44 = .ok (.iload_n 1, 1) := by decide +kernel
theorem dX7_begin_45 : decode cX7_begin 45 = .ok (.iconst 0, 1) := by decide +kernel
theorem dX7_begin_46 : decode cX7_begin 46 = .ok (.iastore, 1) := by decide +kernel
theorem dX7_begin_47 : decode cX7_begin 47 = .ok (.iinc 1 1, 3) := by decide +kernel
theorem dX7_begin_50 : decode cX7_begin 50 = .ok (.goto (-16), 3) := by decide +kernel
theorem dX7_begin_53 : decode cX7_begin 53 = .ok (.return_, 1) := by decide +kernel
theorem dX7_read_0 : decode cX7_read 0 = .ok (.aload_n 0, 1) := by decide +kernel
theorem dX7_read_1 : decode cX7_read 1 = .ok (.iconst 0, 1) := by decide +kernel
theorem dX7_read_2 : decode cX7_read 2 = .ok (.putfield 91, 3) := by decide +kernel
theorem dX7_read_5 : decode cX7_read 5 = .ok (.aload_n 0, 1) := by decide +kernel
theorem dX7_read_6 : decode cX7_read 6 = .ok (.invokevirtual 126, 3) := by decide +kernel
theorem dX7_read_9 : decode cX7_read 9 = .ok (.aload_n 0, 1) := by decide +kernel
theorem dX7_read_10 : decode cX7_read 10 = .ok (.getfield 91, 3) := by decide +kernel
theorem dX7_read_13 : decode cX7_read 13 = .ok (.aload_n 0, 1) := by decide +kernel
theorem dX7_read_14 : decode cX7_read 14 = .ok (.getfield 87, 3) := by decide +kernel
theorem dX7_read_17 : decode cX7_read 17 = .ok (.if_icmp .ge 24, 3) := by decide +kernel
theorem dX7_read_20 : decode cX7_read 20 = .ok (.aload_n 0, 1) := by decide +kernel
theorem dX7_read_21 : decode cX7_read 21 = .ok (.getfield 91, 3) := by decide +kernel
theorem dX7_read_24 : decode cX7_read 24 = .ok (.istore_n 1, 1) := by decide +kernel
theorem dX7_read_25 : decode cX7_read 25 = .ok (.aload_n 0, 1) := by decide +kernel
theorem dX7_read_26 : decode cX7_read 26 = .ok (.invokevirtual 129, 3) := by decide +kernel
theorem dX7_read_29 : decode cX7_read 29 = .ok (.aload_n 0, 1) := by decide +kernel
theorem dX7_read_30 : decode cX7_read 30 = .ok (.getfield 98, 3) := by decide +kernel
theorem dX7_read_33 : decode cX7_read 33 = .ok (.ifCond .eq 5, 3) := by decide +kernel
theorem dX7_read_36 : decode cX7_read 36 = .ok (.iload_n 1, 1) := by decide +kernel
theorem dX7_read_37 : decode cX7_read 37 = .ok (.ireturn, 1) := by decide +kernel
theorem dX7_read_38 : decode cX7_read 38 = .ok (.goto (-29), 3) := by decide +kernel
theorem dX7_read_41 : decode cX7_read 41 = .ok (.bipush (-4), 2) := by decide +kernel
theorem dX7_read_43 : decode cX7_read 43 = .ok (.ireturn, 1) := by decide +kernel
theorem dX7_fault_0 : decode cX7_fault 0 = .ok (.aload_n 0, 1) := by decide +kernel
theorem dX7_fault_1 : decode cX7_fault 1 = .ok (.invokevirtual 132, 3) := by decide +kernel
theorem dX7_fault_4 : decode cX7_fault 4 = .ok (.ireturn, 1) := by decide +kernel
theorem dX7_tellRoad_0 : decode cX7_tellRoad 0 = .ok (.aload_n 0, 1) := by decide +kernel
theorem dX7_tellRoad_1 : decode cX7_tellRoad 1 = .ok (.getfield 29, 3) := by decide +kernel
theorem dX7_tellRoad_4 : decode cX7_tellRoad 4 = .ok (.bipush 8, 2) := by decide +kernel
theorem dX7_tellRoad_6 : decode cX7_tellRoad 6 = .ok (.iload_n 1, 1) := by decide +kernel
theorem dX7_tellRoad_7 : decode cX7_tellRoad 7 = .ok (.imul, 1) := by decide +kernel
theorem dX7_tellRoad_8 : decode cX7_tellRoad 8 = .ok (.iload_n 2, 1) := by decide +kernel
theorem dX7_tellRoad_9 : decode cX7_tellRoad 9 = .ok (.iadd, 1) := by decide +kernel
theorem dX7_tellRoad_10 : decode cX7_tellRoad 10 = .ok (.iload_n 3, 1) := by decide +kernel
theorem dX7_tellRoad_11 : decode cX7_tellRoad 11 = .ok (.iastore, 1) := by decide +kernel
theorem dX7_tellRoad_12 : decode cX7_tellRoad 12 = .ok (.aload_n 0, 1) := by decide +kernel
theorem dX7_tellRoad_13 : decode cX7_tellRoad 13 = .ok (.getfield 29, 3) := by decide +kernel
theorem dX7_tellRoad_16 : decode cX7_tellRoad 16 = .ok (.bipush 8, 2) := by decide +kernel
theorem dX7_tellRoad_18 : decode cX7_tellRoad 18 = .ok (.iload_n 2, 1) := by decide +kernel
theorem dX7_tellRoad_19 : decode cX7_tellRoad 19 = .ok (.imul, 1) := by decide +kernel
theorem dX7_tellRoad_20 : decode cX7_tellRoad 20 = .ok (.iload_n 1, 1) := by decide +kernel
theorem dX7_tellRoad_21 : decode cX7_tellRoad 21 = .ok (.iadd, 1) := by decide +kernel
theorem dX7_tellRoad_22 : decode cX7_tellRoad 22 = .ok (.iload_n 3, 1) := by decide +kernel
theorem dX7_tellRoad_23 : decode cX7_tellRoad 23 = .ok (.iastore, 1) := by decide +kernel
theorem dX7_tellRoad_24 : decode cX7_tellRoad 24 = .ok (.return_, 1) := by decide +kernel
theorem dX7_tellPost_0 : decode cX7_tellPost 0 = .ok (.aload_n 0, 1) := by decide +kernel
theorem dX7_tellPost_1 : decode cX7_tellPost 1 = .ok (.getfield 23, 3) := by decide +kernel
theorem dX7_tellPost_4 : decode cX7_tellPost 4 = .ok (.bipush 6, 2) := by decide +kernel
theorem dX7_tellPost_6 : decode cX7_tellPost 6 = .ok (.aload_n 0, 1) := by decide +kernel
theorem dX7_tellPost_7 : decode cX7_tellPost 7 = .ok (.getfield 17, 3) := by decide +kernel
theorem dX7_tellPost_10 : decode cX7_tellPost 10 = .ok (.iconst 1, 1) := by decide +kernel
theorem dX7_tellPost_11 : decode cX7_tellPost 11 = .ok (.iaload, 1) := by decide +kernel
theorem dX7_tellPost_12 : decode cX7_tellPost 12 = .ok (.iadd, 1) := by decide +kernel
theorem dX7_tellPost_13 : decode cX7_tellPost 13 = .ok (.iload_n 1, 1) := by decide +kernel
theorem dX7_tellPost_14 : decode cX7_tellPost 14 = .ok (.iastore, 1) := by decide +kernel
theorem dX7_tellPost_15 : decode cX7_tellPost 15 = .ok (.aload_n 0, 1) := by decide +kernel
theorem dX7_tellPost_16 : decode cX7_tellPost 16 = .ok (.getfield 32, 3) := by decide +kernel
theorem dX7_tellPost_19 : decode cX7_tellPost 19 = .ok (.aload_n 0, 1) := by decide +kernel
theorem dX7_tellPost_20 : decode cX7_tellPost 20 = .ok (.getfield 17, 3) := by decide +kernel
theorem dX7_tellPost_23 : decode cX7_tellPost 23 = .ok (.iconst 1, 1) := by decide +kernel
theorem dX7_tellPost_24 : decode cX7_tellPost 24 = .ok (.iaload, 1) := by decide +kernel
theorem dX7_tellPost_25 : decode cX7_tellPost 25 = .ok (.iload_n 2, 1) := by decide +kernel
theorem dX7_tellPost_26 : decode cX7_tellPost 26 = .ok (.iastore, 1) := by decide +kernel
theorem dX7_tellPost_27 : decode cX7_tellPost 27 = .ok (.aload_n 0, 1) := by decide +kernel
theorem dX7_tellPost_28 : decode cX7_tellPost 28 = .ok (.getfield 35, 3) := by decide +kernel
theorem dX7_tellPost_31 : decode cX7_tellPost 31 = .ok (.aload_n 0, 1) := by decide +kernel
theorem dX7_tellPost_32 : decode cX7_tellPost 32 = .ok (.getfield 17, 3) := by decide +kernel
theorem dX7_tellPost_35 : decode cX7_tellPost 35 = .ok (.iconst 1, 1) := by decide +kernel
theorem dX7_tellPost_36 : decode cX7_tellPost 36 = .ok (.iaload, 1) := by decide +kernel
theorem dX7_tellPost_37 : decode cX7_tellPost 37 = .ok (.iload_n 3, 1) := by decide +kernel
theorem dX7_tellPost_38 : decode cX7_tellPost 38 = .ok (.iastore, 1) := by decide +kernel
theorem dX7_tellPost_39 : decode cX7_tellPost 39 = .ok (.aload_n 0, 1) := by decide +kernel
theorem dX7_tellPost_40 : decode cX7_tellPost 40 = .ok (.getfield 17, 3) := by decide +kernel
theorem dX7_tellPost_43 : decode cX7_tellPost 43 = .ok (.iconst 1, 1) := by decide +kernel
theorem dX7_tellPost_44 : decode cX7_tellPost 44 = .ok (.dup2, 1) := by decide +kernel
theorem dX7_tellPost_45 : decode cX7_tellPost 45 = .ok (.iaload, 1) := by decide +kernel
theorem dX7_tellPost_46 : decode cX7_tellPost 46 = .ok (.iconst 1, 1) := by decide +kernel
theorem dX7_tellPost_47 : decode cX7_tellPost 47 = .ok (.iadd, 1) := by decide +kernel
theorem dX7_tellPost_48 : decode cX7_tellPost 48 = .ok (.iastore, 1) := by decide +kernel
theorem dX7_tellPost_49 : decode cX7_tellPost 49 = .ok (.return_, 1) := by decide +kernel
theorem dX7_tellWalker_0 : decode cX7_tellWalker 0 = .ok (.aload_n 0, 1) := by decide +kernel
theorem dX7_tellWalker_1 : decode cX7_tellWalker 1 = .ok (.getfield 38, 3) := by decide +kernel
theorem dX7_tellWalker_4 : decode cX7_tellWalker 4 = .ok (.aload_n 0, 1) := by decide +kernel
theorem dX7_tellWalker_5 : decode cX7_tellWalker 5 = .ok (.getfield 20, 3) := by decide +kernel
theorem dX7_tellWalker_8 : decode cX7_tellWalker 8 = .ok (.iconst 1, 1) := by decide +kernel
theorem dX7_tellWalker_9 : decode cX7_tellWalker 9 = .ok (.iaload, 1) := by decide +kernel
theorem dX7_tellWalker_10 : decode cX7_tellWalker 10 = .ok (.iload_n 1, 1) := by decide +kernel
theorem dX7_tellWalker_11 : decode cX7_tellWalker 11 = .ok (.iastore, 1) := by decide +kernel
theorem dX7_tellWalker_12 : decode cX7_tellWalker 12 = .ok (.aload_n 0, 1) := by decide +kernel
theorem dX7_tellWalker_13 : decode cX7_tellWalker 13 = .ok (.getfield 26, 3) := by decide +kernel
theorem dX7_tellWalker_16 : decode cX7_tellWalker 16 = .ok (.iconst 5, 1) := by decide +kernel
theorem dX7_tellWalker_17 : decode cX7_tellWalker 17 = .ok (.aload_n 0, 1) := by decide +kernel
theorem dX7_tellWalker_18 : decode cX7_tellWalker 18 = .ok (.getfield 20, 3) := by decide +kernel
theorem dX7_tellWalker_21 : decode cX7_tellWalker 21 = .ok (.iconst 1, 1) := by decide +kernel
theorem dX7_tellWalker_22 : decode cX7_tellWalker 22 = .ok (.iaload, 1) := by decide +kernel
theorem dX7_tellWalker_23 : decode cX7_tellWalker 23 = .ok (.iadd, 1) := by decide +kernel
theorem dX7_tellWalker_24 : decode cX7_tellWalker 24 = .ok (.iload_n 2, 1) := by decide +kernel
theorem dX7_tellWalker_25 : decode cX7_tellWalker 25 = .ok (.iastore, 1) := by decide +kernel
theorem dX7_tellWalker_26 : decode cX7_tellWalker 26 = .ok (.aload_n 0, 1) := by decide +kernel
theorem dX7_tellWalker_27 : decode cX7_tellWalker 27 = .ok (.getfield 20, 3) := by decide +kernel
theorem dX7_tellWalker_30 : decode cX7_tellWalker 30 = .ok (.iconst 1, 1) := by decide +kernel
theorem dX7_tellWalker_31 : decode cX7_tellWalker 31 = .ok (.dup2, 1) := by decide +kernel
theorem dX7_tellWalker_32 : decode cX7_tellWalker 32 = .ok (.iaload, 1) := by decide +kernel
theorem dX7_tellWalker_33 : decode cX7_tellWalker 33 = .ok (.iconst 1, 1) := by decide +kernel
theorem dX7_tellWalker_34 : decode cX7_tellWalker 34 = .ok (.iadd, 1) := by decide +kernel
theorem dX7_tellWalker_35 : decode cX7_tellWalker 35 = .ok (.iastore, 1) := by decide +kernel
theorem dX7_tellWalker_36 : decode cX7_tellWalker 36 = .ok (.return_, 1) := by decide +kernel
theorem dX7_first_0 : decode cX7_first 0 = .ok (.aload_n 0, 1) := by decide +kernel
theorem dX7_first_1 : decode cX7_first 1 = .ok (.invokevirtual 126, 3) := by decide +kernel
theorem dX7_first_4 : decode cX7_first 4 = .ok (.aload_n 0, 1) := by decide +kernel
theorem dX7_first_5 : decode cX7_first 5 = .ok (.iconst 0, 1) := by decide +kernel
theorem dX7_first_6 : decode cX7_first 6 = .ok (.iconst 1, 1) := by decide +kernel
theorem dX7_first_7 : decode cX7_first 7 = .ok (.iconst 2, 1) := by decide +kernel
theorem dX7_first_8 : decode cX7_first 8 = .ok (.invokevirtual 135, 3) := by decide +kernel
theorem dX7_first_11 : decode cX7_first 11 = .ok (.aload_n 0, 1) := by decide +kernel
theorem dX7_first_12 : decode cX7_first 12 = .ok (.iconst 1, 1) := by decide +kernel
theorem dX7_first_13 : decode cX7_first 13 = .ok (.iconst 2, 1) := by decide +kernel
theorem dX7_first_14 : decode cX7_first 14 = .ok (.iconst 3, 1) := by decide +kernel
theorem dX7_first_15 : decode cX7_first 15 = .ok (.invokevirtual 135, 3) := by decide +kernel
theorem dX7_first_18 : decode cX7_first 18 = .ok (.aload_n 0, 1) := by decide +kernel
theorem dX7_first_19 : decode cX7_first 19 = .ok (.iconst 2, 1) := by decide +kernel
theorem dX7_first_20 : decode cX7_first 20 = .ok (.iconst 3, 1) := by decide +kernel
theorem dX7_first_21 : decode cX7_first 21 = .ok (.iconst 1, 1) := by decide +kernel
theorem dX7_first_22 : decode cX7_first 22 = .ok (.invokevirtual 135, 3) := by decide +kernel
theorem dX7_first_25 : decode cX7_first 25 = .ok (.aload_n 0, 1) := by decide +kernel
theorem dX7_first_26 : decode cX7_first 26 = .ok (.iconst 3, 1) := by decide +kernel
theorem dX7_first_27 : decode cX7_first 27 = .ok (.iconst 4, 1) := by decide +kernel
theorem dX7_first_28 : decode cX7_first 28 = .ok (.iconst 4, 1) := by decide +kernel
theorem dX7_first_29 : decode cX7_first 29 = .ok (.invokevirtual 135, 3) := by decide +kernel
theorem dX7_first_32 : decode cX7_first 32 = .ok (.aload_n 0, 1) := by decide +kernel
theorem dX7_first_33 : decode cX7_first 33 = .ok (.iconst 4, 1) := by decide +kernel
theorem dX7_first_34 : decode cX7_first 34 = .ok (.iconst 5, 1) := by decide +kernel
theorem dX7_first_35 : decode cX7_first 35 = .ok (.iconst 2, 1) := by decide +kernel
theorem dX7_first_36 : decode cX7_first 36 = .ok (.invokevirtual 135, 3) := by decide +kernel
theorem dX7_first_39 : decode cX7_first 39 = .ok (.aload_n 0, 1) := by decide +kernel
theorem dX7_first_40 : decode cX7_first 40 = .ok (.iconst 5, 1) := by decide +kernel
theorem dX7_first_41 : decode cX7_first 41 = .ok (.iconst 0, 1) := by decide +kernel
theorem dX7_first_42 : decode cX7_first 42 = .ok (.bipush 6, 2) := by decide +kernel
theorem dX7_first_44 : decode cX7_first 44 = .ok (.invokevirtual 135, 3) := by decide +kernel
theorem dX7_first_47 : decode cX7_first 47 = .ok (.aload_n 0, 1) := by decide +kernel
theorem dX7_first_48 : decode cX7_first 48 = .ok (.iconst 1, 1) := by decide +kernel
theorem dX7_first_49 : decode cX7_first 49 = .ok (.iconst 4, 1) := by decide +kernel
theorem dX7_first_50 : decode cX7_first 50 = .ok (.iconst 5, 1) := by decide +kernel
theorem dX7_first_51 : decode cX7_first 51 = .ok (.invokevirtual 135, 3) := by decide +kernel
theorem dX7_first_54 : decode cX7_first 54 = .ok (.aload_n 0, 1) := by decide +kernel
theorem dX7_first_55 : decode cX7_first 55 = .ok (.iconst 0, 1) := by decide +kernel
theorem dX7_first_56 : decode cX7_first 56 = .ok (.iconst 0, 1) := by decide +kernel
theorem dX7_first_57 : decode cX7_first 57 = .ok (.bipush 10, 2) := by decide +kernel
theorem dX7_first_59 : decode cX7_first 59 = .ok (.invokevirtual 139, 3) := by decide +kernel
theorem dX7_first_62 : decode cX7_first 62 = .ok (.aload_n 0, 1) := by decide +kernel
theorem dX7_first_63 : decode cX7_first 63 = .ok (.iconst 1, 1) := by decide +kernel
theorem dX7_first_64 : decode cX7_first 64 = .ok (.iconst 1, 1) := by decide +kernel
theorem dX7_first_65 : decode cX7_first 65 = .ok (.bipush 45, 2) := by decide +kernel
theorem dX7_first_67 : decode cX7_first 67 = .ok (.invokevirtual 139, 3) := by decide +kernel
theorem dX7_first_70 : decode cX7_first 70 = .ok (.aload_n 0, 1) := by decide +kernel
theorem dX7_first_71 : decode cX7_first 71 = .ok (.iconst 2, 1) := by decide +kernel
theorem dX7_first_72 : decode cX7_first 72 = .ok (.iconst 4, 1) := by decide +kernel
theorem dX7_first_73 : decode cX7_first 73 = .ok (.bipush 30, 2) := by decide +kernel
theorem dX7_first_75 : decode cX7_first 75 = .ok (.invokevirtual 139, 3) := by decide +kernel
theorem dX7_first_78 : decode cX7_first 78 = .ok (.aload_n 0, 1) := by decide +kernel
theorem dX7_first_79 : decode cX7_first 79 = .ok (.iconst 3, 1) := by decide +kernel
theorem dX7_first_80 : decode cX7_first 80 = .ok (.iconst 2, 1) := by decide +kernel
theorem dX7_first_81 : decode cX7_first 81 = .ok (.bipush 20, 2) := by decide +kernel
theorem dX7_first_83 : decode cX7_first 83 = .ok (.invokevirtual 139, 3) := by decide +kernel
theorem dX7_first_86 : decode cX7_first 86 = .ok (.aload_n 0, 1) := by decide +kernel
theorem dX7_first_87 : decode cX7_first 87 = .ok (.iconst 0, 1) := by decide +kernel
theorem dX7_first_88 : decode cX7_first 88 = .ok (.iconst 5, 1) := by decide +kernel
theorem dX7_first_89 : decode cX7_first 89 = .ok (.bipush 59, 2) := by decide +kernel
theorem dX7_first_91 : decode cX7_first 91 = .ok (.invokevirtual 139, 3) := by decide +kernel
theorem dX7_first_94 : decode cX7_first 94 = .ok (.aload_n 0, 1) := by decide +kernel
theorem dX7_first_95 : decode cX7_first 95 = .ok (.iconst 0, 1) := by decide +kernel
theorem dX7_first_96 : decode cX7_first 96 = .ok (.iconst 3, 1) := by decide +kernel
theorem dX7_first_97 : decode cX7_first 97 = .ok (.invokevirtual 142, 3) := by decide +kernel
theorem dX7_first_100 : decode cX7_first 100 = .ok (.aload_n 0, 1) := by decide +kernel
theorem dX7_first_101 : decode cX7_first 101 = .ok (.iconst 5, 1) := by decide +kernel
theorem dX7_first_102 : decode cX7_first 102 = .ok (.iconst 2, 1) := by decide +kernel
theorem dX7_first_103 : decode cX7_first 103 = .ok (.invokevirtual 142, 3) := by decide +kernel
theorem dX7_first_106 : decode cX7_first 106 = .ok (.aload_n 0, 1) := by decide +kernel
theorem dX7_first_107 : decode cX7_first 107 = .ok (.iconst 2, 1) := by decide +kernel
theorem dX7_first_108 : decode cX7_first 108 = .ok (.iconst 0, 1) := by decide +kernel
theorem dX7_first_109 : decode cX7_first 109 = .ok (.invokevirtual 142, 3) := by decide +kernel
theorem dX7_first_112 : decode cX7_first 112 = .ok (.aload_n 0, 1) := by decide +kernel
theorem dX7_first_113 : decode cX7_first 113 = .ok (.iconst 4, 1) := by decide +kernel
theorem dX7_first_114 : decode cX7_first 114 = .ok (.iconst 1, 1) := by decide +kernel
theorem dX7_first_115 : decode cX7_first 115 = .ok (.invokevirtual 142, 3) := by decide +kernel
theorem dX7_first_118 : decode cX7_first 118 = .ok (.return_, 1) := by decide +kernel
theorem dX7_takeDraft_0 : decode cX7_takeDraft 0 = .ok (.aload_n 0, 1) := by decide +kernel
theorem dX7_takeDraft_1 : decode cX7_takeDraft 1 = .ok (.getfield 13, 3) := by decide +kernel
theorem dX7_takeDraft_4 : decode cX7_takeDraft 4 = .ok (.iconst 0, 1) := by decide +kernel
theorem dX7_takeDraft_5 : decode cX7_takeDraft 5 = .ok (.aload_n 0, 1) := by decide +kernel
theorem dX7_takeDraft_6 : decode cX7_takeDraft 6 = .ok (.getfield 13, 3) := by decide +kernel
theorem dX7_takeDraft_9 : decode cX7_takeDraft 9 = .ok (.iconst 1, 1) := by decide +kernel
theorem dX7_takeDraft_10 : decode cX7_takeDraft 10 = .ok (.iaload, 1) := by decide +kernel
theorem dX7_takeDraft_11 : decode cX7_takeDraft 11 = .ok (.iastore, 1) := by decide +kernel
theorem dX7_takeDraft_12 : decode cX7_takeDraft 12 = .ok (.aload_n 0, 1) := by decide +kernel
theorem dX7_takeDraft_13 : decode cX7_takeDraft 13 = .ok (.getfield 17, 3) := by decide +kernel
theorem dX7_takeDraft_16 : decode cX7_takeDraft 16 = .ok (.iconst 0, 1) := by decide +kernel
theorem dX7_takeDraft_17 : decode cX7_takeDraft 17 = .ok (.aload_n 0, 1) := by decide +kernel
theorem dX7_takeDraft_18 : decode cX7_takeDraft 18 = .ok (.getfield 17, 3) := by decide +kernel
theorem dX7_takeDraft_21 : decode cX7_takeDraft 21 = .ok (.iconst 1, 1) := by decide +kernel
theorem dX7_takeDraft_22 : decode cX7_takeDraft 22 = .ok (.iaload, 1) := by decide +kernel
theorem dX7_takeDraft_23 : decode cX7_takeDraft 23 = .ok (.iastore, 1) := by decide +kernel
theorem dX7_takeDraft_24 : decode cX7_takeDraft 24 = .ok (.aload_n 0, 1) := by decide +kernel
theorem dX7_takeDraft_25 : decode cX7_takeDraft 25 = .ok (.getfield 20, 3) := by decide +kernel
theorem dX7_takeDraft_28 : decode cX7_takeDraft 28 = .ok (.iconst 0, 1) := by decide +kernel
theorem dX7_takeDraft_29 : decode cX7_takeDraft 29 = .ok (.aload_n 0, 1) := by decide +kernel
theorem dX7_takeDraft_30 : decode cX7_takeDraft 30 = .ok (.getfield 20, 3) := by decide +kernel
theorem dX7_takeDraft_33 : decode cX7_takeDraft 33 = .ok (.iconst 1, 1) := by decide +kernel
theorem dX7_takeDraft_34 : decode cX7_takeDraft 34 = .ok (.iaload, 1) := by decide +kernel
theorem dX7_takeDraft_35 : decode cX7_takeDraft 35 = .ok (.iastore, 1) := by decide +kernel
theorem dX7_takeDraft_36 : decode cX7_takeDraft 36 = .ok (.iconst 0, 1) := by decide +kernel
theorem dX7_takeDraft_37 : decode cX7_takeDraft 37 = .ok (.istore_n 1, 1) := by decide +kernel
theorem dX7_takeDraft_38 : decode cX7_takeDraft 38 = .ok (.iload_n 1, 1) := by decide +kernel
theorem dX7_takeDraft_39 : decode cX7_takeDraft 39 = .ok (.sipush 179, 3) := by decide +kernel
theorem dX7_takeDraft_42 : decode cX7_takeDraft 42 = .ok (.if_icmp .ge 16, 3) := by decide +kernel
theorem dX7_takeDraft_45 : decode cX7_takeDraft 45 = .ok (.aload_n 0, 1) := by decide +kernel
theorem dX7_takeDraft_46 : decode cX7_takeDraft 46 = .ok (.getfield 41, 3) := by decide +kernel
theorem dX7_takeDraft_49 : decode cX7_takeDraft 49 = .ok (.iload_n 1, 1) := by decide +kernel
theorem dX7_takeDraft_50 : decode cX7_takeDraft 50 = .ok (.iconst 0, 1) := by decide +kernel
theorem dX7_takeDraft_51 : decode cX7_takeDraft 51 = .ok (.iastore, 1) := by decide +kernel
theorem dX7_takeDraft_52 : decode cX7_takeDraft 52 = .ok (.iinc 1 1, 3) := by decide +kernel
theorem dX7_takeDraft_55 : decode cX7_takeDraft 55 = .ok (.goto (-17), 3) := by decide +kernel
theorem dX7_takeDraft_58 : decode cX7_takeDraft 58 = .ok (.iconst 0, 1) := by decide +kernel
theorem dX7_takeDraft_59 : decode cX7_takeDraft 59 = .ok (.istore_n 1, 1) := by decide +kernel
theorem dX7_takeDraft_60 : decode cX7_takeDraft 60 = .ok (.iload_n 1, 1) := by decide +kernel
theorem dX7_takeDraft_61 : decode cX7_takeDraft 61 = .ok (.bipush 64, 2) := by decide +kernel
theorem dX7_takeDraft_63 : decode cX7_takeDraft 63 = .ok (.if_icmp .ge 24, 3) := by decide +kernel
theorem dX7_takeDraft_66 : decode cX7_takeDraft 66 = .ok (.aload_n 0, 1) := by decide +kernel
theorem dX7_takeDraft_67 : decode cX7_takeDraft 67 = .ok (.getfield 41, 3) := by decide +kernel
theorem dX7_takeDraft_70 : decode cX7_takeDraft 70 = .ok (.bipush 7, 2) := by decide +kernel
theorem dX7_takeDraft_72 : decode cX7_takeDraft 72 = .ok (.iload_n 1, 1) := by decide +kernel
theorem dX7_takeDraft_73 : decode cX7_takeDraft 73 = .ok (.iadd, 1) := by decide +kernel
theorem dX7_takeDraft_74 : decode cX7_takeDraft 74 = .ok (.aload_n 0, 1) := by decide +kernel
theorem dX7_takeDraft_75 : decode cX7_takeDraft 75 = .ok (.getfield 29, 3) := by decide +kernel
theorem dX7_takeDraft_78 : decode cX7_takeDraft 78 = .ok (.iload_n 1, 1) := by decide +kernel
theorem dX7_takeDraft_79 : decode cX7_takeDraft 79 = .ok (.iaload, 1) := by decide +kernel
theorem dX7_takeDraft_80 : decode cX7_takeDraft 80 = .ok (.iastore, 1) := by decide +kernel
theorem dX7_takeDraft_81 : decode cX7_takeDraft 81 = .ok (.iinc 1 1, 3) := by decide +kernel
theorem dX7_takeDraft_84 : decode cX7_takeDraft 84 = .ok (.goto (-24), 3) := by decide +kernel
theorem dX7_takeDraft_87 : decode cX7_takeDraft 87 = .ok (.iconst 0, 1) := by decide +kernel
theorem dX7_takeDraft_88 : decode cX7_takeDraft 88 = .ok (.istore_n 1, 1) := by decide +kernel
theorem dX7_takeDraft_89 : decode cX7_takeDraft 89 = .ok (.iload_n 1, 1) := by decide +kernel
theorem dX7_takeDraft_90 : decode cX7_takeDraft 90 = .ok (.iconst 5, 1) := by decide +kernel
theorem dX7_takeDraft_91 : decode cX7_takeDraft 91 = .ok (.if_icmp .ge 51, 3) := by decide +kernel
theorem dX7_takeDraft_94 : decode cX7_takeDraft 94 = .ok (.aload_n 0, 1) := by decide +kernel
theorem dX7_takeDraft_95 : decode cX7_takeDraft 95 = .ok (.getfield 26, 3) := by decide +kernel
theorem dX7_takeDraft_98 : decode cX7_takeDraft 98 = .ok (.iload_n 1, 1) := by decide +kernel
theorem dX7_takeDraft_99 : decode cX7_takeDraft 99 = .ok (.aload_n 0, 1) := by decide +kernel
theorem dX7_takeDraft_100 : decode cX7_takeDraft 100 = .ok (.getfield 26, 3) := by decide +kernel
theorem dX7_takeDraft_103 : decode cX7_takeDraft 103 = .ok (.iconst 5, 1) := by decide +kernel
theorem dX7_takeDraft_104 : decode cX7_takeDraft 104 = .ok (.iload_n 1, 1) := by decide +kernel
theorem dX7_takeDraft_105 : decode cX7_takeDraft 105 = .ok (.iadd, 1) := by decide +kernel
theorem dX7_takeDraft_106 : decode cX7_takeDraft 106 = .ok (.iaload, 1) := by decide +kernel
theorem dX7_takeDraft_107 : decode cX7_takeDraft 107 = .ok (.iastore, 1) := by decide +kernel
theorem dX7_takeDraft_108 : decode cX7_takeDraft 108 = .ok (.aload_n 0, 1) := by decide +kernel
theorem dX7_takeDraft_109 : decode cX7_takeDraft 109 = .ok (.getfield 41, 3) := by decide +kernel
theorem dX7_takeDraft_112 : decode cX7_takeDraft 112 = .ok (.iconst 0, 1) := by decide +kernel
theorem dX7_takeDraft_113 : decode cX7_takeDraft 113 = .ok (.iload_n 1, 1) := by decide +kernel
theorem dX7_takeDraft_114 : decode cX7_takeDraft 114 = .ok (.iadd, 1) := by decide +kernel
theorem dX7_takeDraft_115 : decode cX7_takeDraft 115 = .ok (.iload_n 1, 1) := by decide +kernel
theorem dX7_takeDraft_116 : decode cX7_takeDraft 116 = .ok (.aload_n 0, 1) := by decide +kernel
theorem dX7_takeDraft_117 : decode cX7_takeDraft 117 = .ok (.getfield 20, 3) := by decide +kernel
theorem dX7_takeDraft_120 : decode cX7_takeDraft 120 = .ok (.iconst 0, 1) := by decide +kernel
theorem dX7_takeDraft_121 : decode cX7_takeDraft 121 = .ok (.iaload, 1) := by decide +kernel
theorem dX7_takeDraft_122 : decode cX7_takeDraft 122 = .ok (.if_icmp .ge 12, 3) := by decide +kernel
theorem dX7_takeDraft_125 : decode cX7_takeDraft 125 = .ok (.aload_n 0, 1) := by decide +kernel
theorem dX7_takeDraft_126 : decode cX7_takeDraft 126 = .ok (.getfield 38, 3) := by decide +kernel
theorem dX7_takeDraft_129 : decode cX7_takeDraft 129 = .ok (.iload_n 1, 1) := by decide +kernel
theorem dX7_takeDraft_130 : decode cX7_takeDraft 130 = .ok (.iaload, 1) := by decide +kernel
theorem dX7_takeDraft_131 : decode cX7_takeDraft 131 = .ok (.goto 4, 3) := by decide +kernel
theorem dX7_takeDraft_134 : decode cX7_takeDraft 134 = .ok (.iconst 0, 1) := by decide +kernel
theorem dX7_takeDraft_135 : decode cX7_takeDraft 135 = .ok (.iastore, 1) := by decide +kernel
theorem dX7_takeDraft_136 : decode cX7_takeDraft 136 = .ok (.iinc 1 1, 3) := by decide +kernel
theorem dX7_takeDraft_139 : decode cX7_takeDraft 139 = .ok (.goto (-50), 3) := by decide +kernel
theorem dX7_takeDraft_142 : decode cX7_takeDraft 142 = .ok (.iconst 0, 1) := by decide +kernel
theorem dX7_takeDraft_143 : decode cX7_takeDraft 143 = .ok (.istore_n 1, 1) := by decide +kernel
theorem dX7_takeDraft_144 : decode cX7_takeDraft 144 = .ok (.iload_n 1, 1) := by decide +kernel
theorem dX7_takeDraft_145 : decode cX7_takeDraft 145 = .ok (.bipush 6, 2) := by decide +kernel
theorem dX7_takeDraft_147 : decode cX7_takeDraft 147 = .ok (.if_icmp .ge 83, 3) := by decide +kernel
theorem dX7_takeDraft_150 : decode cX7_takeDraft 150 = .ok (.aload_n 0, 1) := by decide +kernel
theorem dX7_takeDraft_151 : decode cX7_takeDraft 151 = .ok (.getfield 23, 3) := by decide +kernel
theorem dX7_takeDraft_154 : decode cX7_takeDraft 154 = .ok (.iload_n 1, 1) := by decide +kernel
theorem dX7_takeDraft_155 : decode cX7_takeDraft 155 = .ok (.aload_n 0, 1) := by decide +kernel
theorem dX7_takeDraft_156 : decode cX7_takeDraft 156 = .ok (.getfield 23, 3) := by decide +kernel
theorem dX7_takeDraft_159 : decode cX7_takeDraft 159 = .ok (.bipush 6, 2) := by decide +kernel
theorem dX7_takeDraft_161 : decode cX7_takeDraft 161 = .ok (.iload_n 1, 1) := by decide +kernel
theorem dX7_takeDraft_162 : decode cX7_takeDraft 162 = .ok (.iadd, 1) := by decide +kernel
theorem dX7_takeDraft_163 : decode cX7_takeDraft 163 = .ok (.iaload, 1) := by decide +kernel
theorem dX7_takeDraft_164 : decode cX7_takeDraft 164 = .ok (.iastore, 1) := by decide +kernel
theorem dX7_takeDraft_165 : decode cX7_takeDraft 165 = .ok (.aload_n 0, 1) := by decide +kernel
theorem dX7_takeDraft_166 : decode cX7_takeDraft 166 = .ok (.getfield 41, 3) := by decide +kernel
theorem dX7_takeDraft_169 : decode cX7_takeDraft 169 = .ok (.bipush 71, 2) := by decide +kernel
theorem dX7_takeDraft_171 : decode cX7_takeDraft 171 = .ok (.iload_n 1, 1) := by decide +kernel
theorem dX7_takeDraft_172 : decode cX7_takeDraft 172 = .ok (.iadd, 1) := by decide +kernel
theorem dX7_takeDraft_173 : decode cX7_takeDraft 173 = .ok (.iload_n 1, 1) := by decide +kernel
theorem dX7_takeDraft_174 : decode cX7_takeDraft 174 = .ok (.aload_n 0, 1) := by decide +kernel
theorem dX7_takeDraft_175 : decode cX7_takeDraft 175 = .ok (.getfield 17, 3) := by decide +kernel
theorem dX7_takeDraft_178 : decode cX7_takeDraft 178 = .ok (.iconst 0, 1) := by decide +kernel
theorem dX7_takeDraft_179 : decode cX7_takeDraft 179 = .ok (.iaload, 1) := by decide +kernel
theorem dX7_takeDraft_180 : decode cX7_takeDraft 180 = .ok (.if_icmp .ge 12, 3) := by decide +kernel
theorem dX7_takeDraft_183 : decode cX7_takeDraft 183 = .ok (.aload_n 0, 1) := by decide +kernel
theorem dX7_takeDraft_184 : decode cX7_takeDraft 184 = .ok (.getfield 32, 3) := by decide +kernel
theorem dX7_takeDraft_187 : decode cX7_takeDraft 187 = .ok (.iload_n 1, 1) := by decide +kernel
theorem dX7_takeDraft_188 : decode cX7_takeDraft 188 = .ok (.iaload, 1) := by decide +kernel
theorem dX7_takeDraft_189 : decode cX7_takeDraft 189 = .ok (.goto 5, 3) := by decide +kernel
theorem dX7_takeDraft_192 : decode cX7_takeDraft 192 = .ok (.bipush (-4), 2) := by decide +kernel
theorem dX7_takeDraft_194 : decode cX7_takeDraft 194 = .ok (.iastore, 1) := by decide +kernel
theorem dX7_takeDraft_195 : decode cX7_takeDraft 195 = .ok (.aload_n 0, 1) := by decide +kernel
theorem dX7_takeDraft_196 : decode cX7_takeDraft 196 = .ok (.getfield 41, 3) := by decide +kernel
theorem dX7_takeDraft_199 : decode cX7_takeDraft 199 = .ok (.bipush 77, 2) := by decide +kernel
theorem dX7_takeDraft_201 : decode cX7_takeDraft 201 = .ok (.iload_n 1, 1) := by decide +kernel
theorem dX7_takeDraft_202 : decode cX7_takeDraft 202 = .ok (.iadd, 1) := by decide +kernel
theorem dX7_takeDraft_203 : decode cX7_takeDraft 203 = .ok (.iload_n 1, 1) := by decide +kernel
theorem dX7_takeDraft_204 : decode cX7_takeDraft 204 = .ok (.aload_n 0, 1) := by decide +kernel
theorem dX7_takeDraft_205 : decode cX7_takeDraft 205 = .ok (.getfield 17, 3) := by decide +kernel
theorem dX7_takeDraft_208 : decode cX7_takeDraft 208 = .ok (.iconst 0, 1) := by decide +kernel
theorem dX7_takeDraft_209 : decode cX7_takeDraft 209 = .ok (.iaload, 1) := by decide +kernel
theorem dX7_takeDraft_210 : decode cX7_takeDraft 210 = .ok (.if_icmp .ge 12, 3) := by decide +kernel
theorem dX7_takeDraft_213 : decode cX7_takeDraft 213 = .ok (.aload_n 0, 1) := by decide +kernel
theorem dX7_takeDraft_214 : decode cX7_takeDraft 214 = .ok (.getfield 35, 3) := by decide +kernel
theorem dX7_takeDraft_217 : decode cX7_takeDraft 217 = .ok (.iload_n 1, 1) := by decide +kernel
theorem dX7_takeDraft_218 : decode cX7_takeDraft 218 = .ok (.iaload, 1) := by decide +kernel
theorem dX7_takeDraft_219 : decode cX7_takeDraft 219 = .ok (.goto 4, 3) := by decide +kernel
theorem dX7_takeDraft_222 : decode cX7_takeDraft 222 = .ok (.iconst 0, 1) := by decide +kernel
theorem dX7_takeDraft_223 : decode cX7_takeDraft 223 = .ok (.iastore, 1) := by decide +kernel
theorem dX7_takeDraft_224 : decode cX7_takeDraft 224 = .ok (.iinc 1 1, 3) := by decide +kernel
theorem dX7_takeDraft_227 : decode cX7_takeDraft 227 = .ok (.goto (-83), 3) := by decide +kernel
theorem dX7_takeDraft_230 : decode cX7_takeDraft 230 = .ok (.aload_n 0, 1) := by decide +kernel
theorem dX7_takeDraft_231 : decode cX7_takeDraft 231 = .ok (.aload_n 0, 1) := by decide +kernel
theorem dX7_takeDraft_232 : decode cX7_takeDraft 232 = .ok (.getfield 41, 3) := by decide +kernel
theorem dX7_takeDraft_235 : decode cX7_takeDraft 235 = .ok (.invokevirtual 146, 3) := by decide +kernel
theorem dX7_takeDraft_238 : decode cX7_takeDraft 238 = .ok (.iconst 0, 1) := by decide +kernel
theorem dX7_takeDraft_239 : decode cX7_takeDraft 239 = .ok (.istore_n 1, 1) := by decide +kernel
theorem dX7_takeDraft_240 : decode cX7_takeDraft 240 = .ok (.iload_n 1, 1) := by decide +kernel
theorem dX7_takeDraft_241 : decode cX7_takeDraft 241 = .ok (.aload_n 0, 1) := by decide +kernel
theorem dX7_takeDraft_242 : decode cX7_takeDraft 242 = .ok (.getfield 17, 3) := by decide +kernel
theorem dX7_takeDraft_245 : decode cX7_takeDraft 245 = .ok (.iconst 0, 1) := by decide +kernel
theorem dX7_takeDraft_246 : decode cX7_takeDraft 246 = .ok (.iaload, 1) := by decide +kernel
theorem dX7_takeDraft_247 : decode cX7_takeDraft 247 = .ok (.if_icmp .ge 18, 3) := by decide +kernel
theorem dX7_takeDraft_250 : decode cX7_takeDraft 250 = .ok (.aload_n 0, 1) := by decide +kernel
theorem dX7_takeDraft_251 : decode cX7_takeDraft 251 = .ok (.aload_n 0, 1) := by decide +kernel
theorem dX7_takeDraft_252 : decode cX7_takeDraft 252 = .ok (.getfield 41, 3) := by decide +kernel
theorem dX7_takeDraft_255 : decode cX7_takeDraft 255 = .ok (.iload_n 1, 1) := by decide +kernel
theorem dX7_takeDraft_256 : decode cX7_takeDraft 256 = .ok (.invokevirtual 150, 3) := by decide +kernel
theorem dX7_takeDraft_259 : decode cX7_takeDraft 259 = .ok (.iinc 1 1, 3) := by decide +kernel
theorem dX7_takeDraft_262 : decode cX7_takeDraft 262 = .ok (.goto (-22), 3) := by decide +kernel
theorem dX7_takeDraft_265 : decode cX7_takeDraft 265 = .ok (.aload_n 0, 1) := by decide +kernel
theorem dX7_takeDraft_266 : decode cX7_takeDraft 266 = .ok (.iconst 0, 1) := by decide +kernel
theorem dX7_takeDraft_267 : decode cX7_takeDraft 267 = .ok (.putfield 154, 3) := by decide +kernel
theorem dX7_takeDraft_270 : decode cX7_takeDraft 270 = .ok (.aload_n 0, 1) := by decide +kernel
theorem dX7_takeDraft_271 : decode cX7_takeDraft 271 = .ok (.iconst 0, 1) := by decide +kernel
theorem dX7_takeDraft_272 : decode cX7_takeDraft 272 = .ok (.putfield 157, 3) := by decide +kernel
theorem dX7_takeDraft_275 : decode cX7_takeDraft 275 = .ok (.aload_n 0, 1) := by decide +kernel
theorem dX7_takeDraft_276 : decode cX7_takeDraft 276 = .ok (.iconst 0, 1) := by decide +kernel
theorem dX7_takeDraft_277 : decode cX7_takeDraft 277 = .ok (.putfield 160, 3) := by decide +kernel
theorem dX7_takeDraft_280 : decode cX7_takeDraft 280 = .ok (.aload_n 0, 1) := by decide +kernel
theorem dX7_takeDraft_281 : decode cX7_takeDraft 281 = .ok (.iconst 0, 1) := by decide +kernel
theorem dX7_takeDraft_282 : decode cX7_takeDraft 282 = .ok (.putfield 163, 3) := by decide +kernel
theorem dX7_takeDraft_285 : decode cX7_takeDraft 285 = .ok (.return_, 1) := by decide +kernel
theorem dX7_lay_0 : decode cX7_lay 0 = .ok (.aload_n 0, 1) := by decide +kernel
theorem dX7_lay_1 : decode cX7_lay 1 = .ok (.invokevirtual 132, 3) := by decide +kernel
theorem dX7_lay_4 : decode cX7_lay 4 = .ok (.bipush (-4), 2) := by decide +kernel
theorem dX7_lay_6 : decode cX7_lay 6 = .ok (.if_icmp .ne 21, 3) := by decide +kernel
theorem dX7_lay_9 : decode cX7_lay 9 = .ok (.aload_n 0, 1) := by decide +kernel
theorem dX7_lay_10 : decode cX7_lay 10 = .ok (.getfield 17, 3) := by decide +kernel
theorem dX7_lay_13 : decode cX7_lay 13 = .ok (.iconst 1, 1) := by decide +kernel
theorem dX7_lay_14 : decode cX7_lay 14 = .ok (.iaload, 1) := by decide +kernel
theorem dX7_lay_15 : decode cX7_lay 15 = .ok (.ifCond .eq 12, 3) := by decide +kernel
theorem dX7_lay_18 : decode cX7_lay 18 = .ok (.aload_n 0, 1) := by decide +kernel
theorem dX7_lay_19 : decode cX7_lay 19 = .ok (.getfield 20, 3) := by decide +kernel
theorem dX7_lay_22 : decode cX7_lay 22 = .ok (.iconst 1, 1) := by decide +kernel
theorem dX7_lay_23 : decode cX7_lay 23 = .ok (.iaload, 1) := by decide +kernel
theorem dX7_lay_24 : decode cX7_lay 24 = .ok (.ifCond .ne 6, 3) := by decide +kernel
theorem dX7_lay_27 : decode cX7_lay 27 = .ok (.bipush (-2), 2) := by decide +kernel
theorem dX7_lay_29 : decode cX7_lay 29 = .ok (.ireturn, 1) := by decide +kernel
theorem dX7_lay_30 : decode cX7_lay 30 = .ok (.aload_n 0, 1) := by decide +kernel
theorem dX7_lay_31 : decode cX7_lay 31 = .ok (.invokevirtual 80, 3) := by decide +kernel
theorem dX7_lay_34 : decode cX7_lay 34 = .ok (.aload_n 0, 1) := by decide +kernel
theorem dX7_lay_35 : decode cX7_lay 35 = .ok (.getfield 17, 3) := by decide +kernel
theorem dX7_lay_38 : decode cX7_lay 38 = .ok (.iconst 0, 1) := by decide +kernel
theorem dX7_lay_39 : decode cX7_lay 39 = .ok (.iaload, 1) := by decide +kernel
theorem dX7_lay_40 : decode cX7_lay 40 = .ok (.ireturn, 1) := by decide +kernel
theorem dX7_take_0 : decode cX7_take 0 = .ok (.iconst 0, 1) := by decide +kernel
theorem dX7_take_1 : decode cX7_take 1 = .ok (.istore_n 1, 1) := by decide +kernel
theorem dX7_take_2 : decode cX7_take 2 = .ok (.iload_n 1, 1) := by decide +kernel
theorem dX7_take_3 : decode cX7_take 3 = .ok (.sipush 179, 3) := by decide +kernel
theorem dX7_take_6 : decode cX7_take 6 = .ok (.if_icmp .ge 21, 3) := by decide +kernel
theorem dX7_take_9 : decode cX7_take 9 = .ok (.aload_n 0, 1) := by decide +kernel
theorem dX7_take_10 : decode cX7_take 10 = .ok (.getfield 50, 3) := by decide +kernel
theorem dX7_take_13 : decode cX7_take 13 = .ok (.iload_n 1, 1) := by decide +kernel
theorem dX7_take_14 : decode cX7_take 14 = .ok (.aload_n 0, 1) := by decide +kernel
theorem dX7_take_15 : decode cX7_take 15 = .ok (.getfield 41, 3) := by decide +kernel
theorem dX7_take_18 : decode cX7_take 18 = .ok (.iload_n 1, 1) := by decide +kernel
theorem dX7_take_19 : decode cX7_take 19 = .ok (.iaload, 1) := by decide +kernel
theorem dX7_take_20 : decode cX7_take 20 = .ok (.iastore, 1) := by decide +kernel
theorem dX7_take_21 : decode cX7_take 21 = .ok (.iinc 1 1, 3) := by decide +kernel
theorem dX7_take_24 : decode cX7_take 24 = .ok (.goto (-22), 3) := by decide +kernel
theorem dX7_take_27 : decode cX7_take 27 = .ok (.return_, 1) := by decide +kernel
theorem dX7_isTown_0 : decode cX7_isTown 0 = .ok (.iload_n 1, 1) := by decide +kernel
theorem dX7_isTown_1 : decode cX7_isTown 1 = .ok (.iconst 0, 1) := by decide +kernel
theorem dX7_isTown_2 : decode cX7_isTown 2 = .ok (.aload_n 0, 1) := by decide +kernel
theorem dX7_isTown_3 : decode cX7_isTown 3 = .ok (.getfield 13, 3) := by decide +kernel
theorem dX7_isTown_6 : decode cX7_isTown 6 = .ok (.iconst 0, 1) := by decide +kernel
theorem dX7_isTown_7 : decode cX7_isTown 7 = .ok (.iaload, 1) := by decide +kernel
theorem dX7_isTown_8 : decode cX7_isTown 8 = .ok (.iconst 1, 1) := by decide +kernel
theorem dX7_isTown_9 : decode cX7_isTown 9 = .ok (.isub, 1) := by decide +kernel
theorem dX7_isTown_10 : decode cX7_isTown 10 = .ok (.invokestatic 83, 3) := by decide +kernel
theorem dX7_isTown_13 : decode cX7_isTown 13 = .ok (.ireturn, 1) := by decide +kernel
theorem dX7_isPost_0 : decode cX7_isPost 0 = .ok (.iload_n 1, 1) := by decide +kernel
theorem dX7_isPost_1 : decode cX7_isPost 1 = .ok (.iconst 0, 1) := by decide +kernel
theorem dX7_isPost_2 : decode cX7_isPost 2 = .ok (.aload_n 0, 1) := by decide +kernel
theorem dX7_isPost_3 : decode cX7_isPost 3 = .ok (.getfield 17, 3) := by decide +kernel
theorem dX7_isPost_6 : decode cX7_isPost 6 = .ok (.iconst 0, 1) := by decide +kernel
theorem dX7_isPost_7 : decode cX7_isPost 7 = .ok (.iaload, 1) := by decide +kernel
theorem dX7_isPost_8 : decode cX7_isPost 8 = .ok (.iconst 1, 1) := by decide +kernel
theorem dX7_isPost_9 : decode cX7_isPost 9 = .ok (.isub, 1) := by decide +kernel
theorem dX7_isPost_10 : decode cX7_isPost 10 = .ok (.invokestatic 83, 3) := by decide +kernel
theorem dX7_isPost_13 : decode cX7_isPost 13 = .ok (.ireturn, 1) := by decide +kernel
theorem dX7_isWalker_0 : decode cX7_isWalker 0 = .ok (.iload_n 1, 1) := by decide +kernel
theorem dX7_isWalker_1 : decode cX7_isWalker 1 = .ok (.iconst 0, 1) := by decide +kernel
theorem dX7_isWalker_2 : decode cX7_isWalker 2 = .ok (.aload_n 0, 1) := by decide +kernel
theorem dX7_isWalker_3 : decode cX7_isWalker 3 = .ok (.getfield 20, 3) := by decide +kernel
theorem dX7_isWalker_6 : decode cX7_isWalker 6 = .ok (.iconst 0, 1) := by decide +kernel
theorem dX7_isWalker_7 : decode cX7_isWalker 7 = .ok (.iaload, 1) := by decide +kernel
theorem dX7_isWalker_8 : decode cX7_isWalker 8 = .ok (.iconst 1, 1) := by decide +kernel
theorem dX7_isWalker_9 : decode cX7_isWalker 9 = .ok (.isub, 1) := by decide +kernel
theorem dX7_isWalker_10 : decode cX7_isWalker 10 = .ok (.invokestatic 83, 3) := by decide +kernel
theorem dX7_isWalker_13 : decode cX7_isWalker 13 = .ok (.ireturn, 1) := by decide +kernel
theorem dX7_measure_0 : decode cX7_measure 0 = .ok (.iconst 0, 1) := by decide +kernel
theorem dX7_measure_1 : decode cX7_measure 1 = .ok (.istore_n 2, 1) := by decide +kernel
theorem dX7_measure_2 : decode cX7_measure 2 = .ok (.iload_n 2, 1) := by decide +kernel
theorem dX7_measure_3 : decode cX7_measure 3 = .ok (.bipush 64, 2) := by decide +kernel
theorem dX7_measure_5 : decode cX7_measure 5 = .ok (.if_icmp .ge 50, 3) := by decide +kernel
theorem dX7_measure_8 : decode cX7_measure 8 = .ok (.aload_n 0, 1) := by decide +kernel
theorem dX7_measure_9 : decode cX7_measure 9 = .ok (.getfield 53, 3) := by decide +kernel
theorem dX7_measure_12 : decode cX7_measure 12 = .ok (.iload_n 2, 1) := by decide +kernel
theorem dX7_measure_13 : decode cX7_measure 13 = .ok (.iload_n 2, 1) := by decide +kernel
theorem dX7_measure_14 : decode cX7_measure 14 = .ok (.bipush 8, 2) := by decide +kernel
theorem dX7_measure_16 : decode cX7_measure 16 = .ok (.idiv, 1) := by decide +kernel
theorem dX7_measure_17 : decode cX7_measure 17 = .ok (.iload_n 2, 1) := by decide +kernel
theorem dX7_measure_18 : decode cX7_measure 18 = .ok (.bipush 8, 2) := by decide +kernel
theorem dX7_measure_20 : decode cX7_measure 20 = .ok (.irem, 1) := by decide +kernel
theorem dX7_measure_21 : decode cX7_measure 21 = .ok (.if_icmp .ne 7, 3) := by decide +kernel
theorem dX7_measure_24 : decode cX7_measure 24 = .ok (.iconst 0, 1) := by decide +kernel
theorem dX7_measure_25 : decode cX7_measure 25 = .ok (.goto 23, 3) := by decide +kernel
theorem dX7_measure_28 : decode cX7_measure 28 = .ok (.aload_n 1, 1) := by decide +kernel
theorem dX7_measure_29 : decode cX7_measure 29 = .ok (.bipush 7, 2) := by decide +kernel
theorem dX7_measure_31 : decode cX7_measure 31 = .ok (.iload_n 2, 1) := by decide +kernel
theorem dX7_measure_32 : decode cX7_measure 32 = .ok (.iadd, 1) := by decide +kernel
theorem dX7_measure_33 : decode cX7_measure 33 = .ok (.iaload, 1) := by decide +kernel
theorem dX7_measure_34 : decode cX7_measure 34 = .ok (.ifCond .le 12, 3) := by decide +kernel
theorem dX7_measure_37 : decode cX7_measure 37 = .ok (.aload_n 1, 1) := by decide +kernel
theorem dX7_measure_38 : decode cX7_measure 38 = .ok (.bipush 7, 2) := by decide +kernel
theorem dX7_measure_40 : decode cX7_measure 40 = .ok (.iload_n 2, 1) := by decide +kernel
theorem dX7_measure_41 : decode cX7_measure 41 = .ok (.iadd, 1) := by decide +kernel
theorem dX7_measure_42 : decode cX7_measure 42 = .ok (.iaload, 1) := by decide +kernel
theorem dX7_measure_43 : decode cX7_measure 43 = .ok (.goto 5, 3) := by decide +kernel
theorem dX7_measure_46 : decode cX7_measure 46 = .ok (.ldc 166, 2) := by decide +kernel
theorem dX7_measure_48 : decode cX7_measure 48 = .ok (.iastore, 1) := by decide +kernel
theorem dX7_measure_49 : decode cX7_measure 49 = .ok (.iinc 2 1, 3) := by decide +kernel
theorem dX7_measure_52 : decode cX7_measure 52 = .ok (.goto (-50), 3) := by decide +kernel
theorem dX7_measure_55 : decode cX7_measure 55 = .ok (.iconst 0, 1) := by decide +kernel
theorem dX7_measure_56 : decode cX7_measure 56 = .ok (.istore_n 2, 1) := by decide +kernel
theorem dX7_measure_57 : decode cX7_measure 57 = .ok (.iload_n 2, 1) := by decide +kernel
theorem dX7_measure_58 : decode cX7_measure 58 = .ok (.bipush 8, 2) := by decide +kernel
theorem dX7_measure_60 : decode cX7_measure 60 = .ok (.if_icmp .ge 111, 3) := by decide +kernel
theorem dX7_measure_63 : decode cX7_measure 63 = .ok (.iconst 0, 1) := by decide +kernel
theorem dX7_measure_64 : decode cX7_measure 64 = .ok (.istore_n 3, 1) := by decide +kernel
theorem dX7_measure_65 : decode cX7_measure 65 = .ok (.iload_n 3, 1) := by decide +kernel
theorem dX7_measure_66 : decode cX7_measure 66 = .ok (.bipush 8, 2) := by decide +kernel
theorem dX7_measure_68 : decode cX7_measure 68 = .ok (.if_icmp .ge 97, 3) := by decide +kernel
theorem dX7_measure_71 : decode cX7_measure 71 = .ok (.iconst 0, 1) := by decide +kernel
theorem dX7_measure_72 : decode cX7_measure 72 = .ok (.istore 4, 2) := by decide +kernel
theorem dX7_measure_74 : decode cX7_measure 74 = .ok (.iload 4, 2) := by decide +kernel
theorem dX7_measure_76 : decode cX7_measure 76 = .ok (.bipush 8, 2) := by decide +kernel
theorem dX7_measure_78 : decode cX7_measure 78 = .ok (.if_icmp .ge 81, 3) := by decide +kernel
theorem dX7_measure_81 : decode cX7_measure 81 = .ok (.aload_n 0, 1) := by decide +kernel
theorem dX7_measure_82 : decode cX7_measure 82 = .ok (.getfield 53, 3) := by decide +kernel
theorem dX7_measure_85 : decode cX7_measure 85 = .ok (.bipush 8, 2) := by decide +kernel
theorem dX7_measure_87 : decode cX7_measure 87 = .ok (.iload_n 3, 1) := by decide +kernel
theorem dX7_measure_88 : decode cX7_measure 88 = .ok (.imul, 1) := by decide +kernel
theorem dX7_measure_89 : decode cX7_measure 89 = .ok (.iload_n 2, 1) := by decide +kernel
theorem dX7_measure_90 : decode cX7_measure 90 = .ok (.iadd, 1) := by decide +kernel
theorem dX7_measure_91 : decode cX7_measure 91 = .ok (.iaload, 1) := by decide +kernel
theorem dX7_measure_92 : decode cX7_measure 92 = .ok (.aload_n 0, 1) := by decide +kernel
theorem dX7_measure_93 : decode cX7_measure 93 = .ok (.getfield 53, 3) := by decide +kernel
theorem dX7_measure_96 : decode cX7_measure 96 = .ok (.bipush 8, 2) := by decide +kernel
theorem dX7_measure_98 : decode cX7_measure 98 = .ok (.iload_n 2, 1) := by decide +kernel
theorem dX7_measure_99 : decode cX7_measure 99 = .ok (.imul, 1) := by decide +kernel
theorem dX7_measure_100 : decode cX7_measure 100 = .ok (.iload 4, 2) := by decide +kernel
theorem dX7_measure_102 : decode cX7_measure 102 = .ok (.iadd, 1) := by decide +kernel
theorem dX7_measure_103 : decode cX7_measure 103 = .ok (.iaload, 1) := by decide +kernel
theorem dX7_measure_104 : decode cX7_measure 104 = .ok (.iadd, 1) := by decide +kernel
theorem dX7_measure_105 : decode cX7_measure 105 = .ok (.istore 5, 2) := by decide +kernel
theorem dX7_measure_107 : decode cX7_measure 107 = .ok (.aload_n 0, 1) := by decide +kernel
theorem dX7_measure_108 : decode cX7_measure 108 = .ok (.getfield 53, 3) := by decide +kernel
theorem dX7_measure_111 : decode cX7_measure 111 = .ok (.bipush 8, 2) := by decide +kernel
theorem dX7_measure_113 : decode cX7_measure 113 = .ok (.iload_n 3, 1) := by decide +kernel
theorem dX7_measure_114 : decode cX7_measure 114 = .ok (.imul, 1) := by decide +kernel
theorem dX7_measure_115 : decode cX7_measure 115 = .ok (.iload 4, 2) := by decide +kernel
theorem dX7_measure_117 : decode cX7_measure 117 = .ok (.iadd, 1) := by decide +kernel
theorem dX7_measure_118 : decode cX7_measure 118 = .ok (.iload 5, 2) := by decide +kernel
theorem dX7_measure_120 : decode cX7_measure 120 = .ok (.aload_n 0, 1) := by decide +kernel
theorem dX7_measure_121 : decode cX7_measure 121 = .ok (.getfield 53, 3) := by decide +kernel
theorem dX7_measure_124 : decode cX7_measure 124 = .ok (.bipush 8, 2) := by decide +kernel
theorem dX7_measure_126 : decode cX7_measure 126 = .ok (.iload_n 3, 1) := by decide +kernel
theorem dX7_measure_127 : decode cX7_measure 127 = .ok (.imul, 1) := by decide +kernel
theorem dX7_measure_128 : decode cX7_measure 128 = .ok (.iload 4, 2) := by decide +kernel
theorem dX7_measure_130 : decode cX7_measure 130 = .ok (.iadd, 1) := by decide +kernel
theorem dX7_measure_131 : decode cX7_measure 131 = .ok (.iaload, 1) := by decide +kernel
theorem dX7_measure_132 : decode cX7_measure 132 = .ok (.if_icmp .ge 8, 3) := by decide +kernel
theorem dX7_measure_135 : decode cX7_measure 135 = .ok (.iload 5, 2) := by decide +kernel
theorem dX7_measure_137 : decode cX7_measure 137 = .ok (.goto 15, 3) := by decide +kernel
theorem dX7_measure_140 : decode cX7_measure 140 = .ok (.aload_n 0, 1) := by decide +kernel
theorem dX7_measure_141 : decode cX7_measure 141 = .ok (.getfield 53, 3) := by decide +kernel
theorem dX7_measure_144 : decode cX7_measure 144 = .ok (.bipush 8, 2) := by decide +kernel
theorem dX7_measure_146 : decode cX7_measure 146 = .ok (.iload_n 3, 1) := by decide +kernel
theorem dX7_measure_147 : decode cX7_measure 147 = .ok (.imul, 1) := by decide +kernel
theorem dX7_measure_148 : decode cX7_measure 148 = .ok (.iload 4, 2) := by decide +kernel
theorem dX7_measure_150 : decode cX7_measure 150 = .ok (.iadd, 1) := by decide +kernel
theorem dX7_measure_151 : decode cX7_measure 151 = .ok (.iaload, 1) := by decide +kernel
theorem dX7_measure_152 : decode cX7_measure 152 = .ok (.iastore, 1) := by decide +kernel
theorem dX7_measure_153 : decode cX7_measure 153 = .ok (.iinc 4 1, 3) := by decide +kernel
theorem dX7_measure_156 : decode cX7_measure 156 = .ok (.goto (-82), 3) := by decide +kernel
theorem dX7_measure_159 : decode cX7_measure 159 = .ok (.iinc 3 1, 3) := by decide +kernel
theorem dX7_measure_162 : decode cX7_measure 162 = .ok (.goto (-97), 3) := by decide +kernel
theorem dX7_measure_165 : decode cX7_measure 165 = .ok (.iinc 2 1, 3) := by decide +kernel
theorem dX7_measure_168 : decode cX7_measure 168 = .ok (.goto (-111), 3) := by decide +kernel
theorem dX7_measure_171 : decode cX7_measure 171 = .ok (.return_, 1) := by decide +kernel
theorem dX7_nextOn_0 : decode cX7_nextOn 0 = .ok (.bipush (-4), 2) := by decide +kernel
theorem dX7_nextOn_2 : decode cX7_nextOn 2 = .ok (.istore 4, 2) := by decide +kernel
theorem dX7_nextOn_4 : decode cX7_nextOn 4 = .ok (.bipush 7, 2) := by decide +kernel
theorem dX7_nextOn_6 : decode cX7_nextOn 6 = .ok (.istore 5, 2) := by decide +kernel
theorem dX7_nextOn_8 : decode cX7_nextOn 8 = .ok (.iload 5, 2) := by decide +kernel
theorem dX7_nextOn_10 : decode cX7_nextOn 10 = .ok (.ifCond .lt 87, 3) := by decide +kernel
theorem dX7_nextOn_13 : decode cX7_nextOn 13 = .ok (.iload_n 2, 1) := by decide +kernel
theorem dX7_nextOn_14 : decode cX7_nextOn 14 = .ok (.iload_n 3, 1) := by decide +kernel
theorem dX7_nextOn_15 : decode cX7_nextOn 15 = .ok (.if_icmp .eq 82, 3) := by decide +kernel
theorem dX7_nextOn_18 : decode cX7_nextOn 18 = .ok (.aload_n 1, 1) := by decide +kernel
theorem dX7_nextOn_19 : decode cX7_nextOn 19 = .ok (.bipush 7, 2) := by decide +kernel
theorem dX7_nextOn_21 : decode cX7_nextOn 21 = .ok (.bipush 8, 2) := by decide +kernel
theorem dX7_nextOn_23 : decode cX7_nextOn 23 = .ok (.iload_n 2, 1) := by decide +kernel
theorem dX7_nextOn_24 : decode cX7_nextOn 24 = .ok (.imul, 1) := by decide +kernel
theorem dX7_nextOn_25 : decode cX7_nextOn 25 = .ok (.iadd, 1) := by decide +kernel
theorem dX7_nextOn_26 : decode cX7_nextOn 26 = .ok (.iload 5, 2) := by decide +kernel
theorem dX7_nextOn_28 : decode cX7_nextOn 28 = .ok (.iadd, 1) := by decide +kernel
theorem dX7_nextOn_29 : decode cX7_nextOn 29 = .ok (.iaload, 1) := by decide +kernel
theorem dX7_nextOn_30 : decode cX7_nextOn 30 = .ok (.istore 6, 2) := by decide +kernel
theorem dX7_nextOn_32 : decode cX7_nextOn 32 = .ok (.iload 6, 2) := by decide +kernel
theorem dX7_nextOn_34 : decode cX7_nextOn 34 = .ok (.ifCond .le 53, 3) := by decide +kernel
theorem dX7_nextOn_37 : decode cX7_nextOn 37 = .ok (.aload_n 0, 1) := by decide +kernel
theorem dX7_nextOn_38 : decode cX7_nextOn 38 = .ok (.getfield 53, 3) := by decide +kernel
theorem dX7_nextOn_41 : decode cX7_nextOn 41 = .ok (.bipush 8, 2) := by decide +kernel
theorem dX7_nextOn_43 : decode cX7_nextOn 43 = .ok (.iload_n 2, 1) := by decide +kernel
theorem dX7_nextOn_44 : decode cX7_nextOn 44 = .ok (.imul, 1) := by decide +kernel
theorem dX7_nextOn_45 : decode cX7_nextOn 45 = .ok (.iload_n 3, 1) := by decide +kernel
theorem dX7_nextOn_46 : decode cX7_nextOn 46 = .ok (.iadd, 1) := by decide +kernel
theorem dX7_nextOn_47 : decode cX7_nextOn 47 = .ok (.iaload, 1) := by decide +kernel
theorem dX7_nextOn_48 : decode cX7_nextOn 48 = .ok (.ldc 166, 2) := by decide +kernel
theorem dX7_nextOn_50 : decode cX7_nextOn 50 = .ok (.if_icmp .ge 37, 3) := by decide +kernel
theorem dX7_nextOn_53 : decode cX7_nextOn 53 = .ok (.iload 6, 2) := by decide +kernel
theorem dX7_nextOn_55 : decode cX7_nextOn 55 = .ok (.aload_n 0, 1) := by decide +kernel
theorem dX7_nextOn_56 : decode cX7_nextOn 56 = .ok (.getfield 53, 3) := by decide +kernel
theorem dX7_nextOn_59 : decode cX7_nextOn 59 = .ok (.bipush 8, 2) := by decide +kernel
theorem dX7_nextOn_61 : decode cX7_nextOn 61 = .ok (.iload 5, 2) := by decide +kernel
theorem dX7_nextOn_63 : decode cX7_nextOn 63 = .ok (.imul, 1) := by decide +kernel
theorem dX7_nextOn_64 : decode cX7_nextOn 64 = .ok (.iload_n 3, 1) := by decide +kernel
theorem dX7_nextOn_65 : decode cX7_nextOn 65 = .ok (.iadd, 1) := by decide +kernel
theorem dX7_nextOn_66 : decode cX7_nextOn 66 = .ok (.iaload, 1) := by decide +kernel
theorem dX7_nextOn_67 : decode cX7_nextOn 67 = .ok (.iadd, 1) := by decide +kernel
theorem dX7_nextOn_68 : decode cX7_nextOn 68 = .ok (.aload_n 0, 1) := by decide +kernel
theorem dX7_nextOn_69 : decode cX7_nextOn 69 = .ok (.getfield 53, 3) := by decide +kernel
theorem dX7_nextOn_72 : decode cX7_nextOn 72 = .ok (.bipush 8, 2) := by decide +kernel
theorem dX7_nextOn_74 : decode cX7_nextOn 74 = .ok (.iload_n 2, 1) := by decide +kernel
theorem dX7_nextOn_75 : decode cX7_nextOn 75 = .ok (.imul, 1) := by decide +kernel
theorem dX7_nextOn_76 : decode cX7_nextOn 76 = .ok (.iload_n 3, 1) := by decide +kernel
theorem dX7_nextOn_77 : decode cX7_nextOn 77 = .ok (.iadd, 1) := by decide +kernel
theorem dX7_nextOn_78 : decode cX7_nextOn 78 = .ok (.iaload, 1) := by decide +kernel
theorem dX7_nextOn_79 : decode cX7_nextOn 79 = .ok (.if_icmp .ne 8, 3) := by decide +kernel
theorem dX7_nextOn_82 : decode cX7_nextOn 82 = .ok (.iload 5, 2) := by decide +kernel
theorem dX7_nextOn_84 : decode cX7_nextOn 84 = .ok (.goto 5, 3) := by decide +kernel
theorem dX7_nextOn_87 : decode cX7_nextOn 87 = .ok (.iload 4, 2) := by decide +kernel
theorem dX7_nextOn_89 : decode cX7_nextOn 89 = .ok (.istore 4, 2) := by decide +kernel
theorem dX7_nextOn_91 : decode cX7_nextOn 91 = .ok (.iinc 5 (-1), 3) := by decide +kernel
theorem dX7_nextOn_94 : decode cX7_nextOn 94 = .ok (.goto (-86), 3) := by decide +kernel
theorem dX7_nextOn_97 : decode cX7_nextOn 97 = .ok (.iload 4, 2) := by decide +kernel
theorem dX7_nextOn_99 : decode cX7_nextOn 99 = .ok (.ireturn, 1) := by decide +kernel
theorem dX7_paintOn_0 : decode cX7_paintOn 0 = .ok (.aload_n 1, 1) := by decide +kernel
theorem dX7_paintOn_1 : decode cX7_paintOn 1 = .ok (.bipush 71, 2) := by decide +kernel
theorem dX7_paintOn_3 : decode cX7_paintOn 3 = .ok (.iload_n 2, 1) := by decide +kernel
theorem dX7_paintOn_4 : decode cX7_paintOn 4 = .ok (.iadd, 1) := by decide +kernel
theorem dX7_paintOn_5 : decode cX7_paintOn 5 = .ok (.iaload, 1) := by decide +kernel
theorem dX7_paintOn_6 : decode cX7_paintOn 6 = .ok (.istore_n 3, 1) := by decide +kernel
theorem dX7_paintOn_7 : decode cX7_paintOn 7 = .ok (.iconst 0, 1) := by decide +kernel
theorem dX7_paintOn_8 : decode cX7_paintOn 8 = .ok (.istore 4, 2) := by decide +kernel
theorem dX7_paintOn_10 : decode cX7_paintOn 10 = .ok (.iload 4, 2) := by decide +kernel
theorem dX7_paintOn_12 : decode cX7_paintOn 12 = .ok (.bipush 8, 2) := by decide +kernel
theorem dX7_paintOn_14 : decode cX7_paintOn 14 = .ok (.if_icmp .ge 86, 3) := by decide +kernel
theorem dX7_paintOn_17 : decode cX7_paintOn 17 = .ok (.iload 4, 2) := by decide +kernel
theorem dX7_paintOn_19 : decode cX7_paintOn 19 = .ok (.aload_n 0, 1) := by decide +kernel
theorem dX7_paintOn_20 : decode cX7_paintOn 20 = .ok (.getfield 13, 3) := by decide +kernel
theorem dX7_paintOn_23 : decode cX7_paintOn 23 = .ok (.iconst 0, 1) := by decide +kernel
theorem dX7_paintOn_24 : decode cX7_paintOn 24 = .ok (.iaload, 1) := by decide +kernel
theorem dX7_paintOn_25 : decode cX7_paintOn 25 = .ok (.if_icmp .ge 14, 3) := by decide +kernel
theorem dX7_paintOn_28 : decode cX7_paintOn 28 = .ok (.aload_n 0, 1) := by decide +kernel
theorem dX7_paintOn_29 : decode cX7_paintOn 29 = .ok (.aload_n 1, 1) := by decide +kernel
theorem dX7_paintOn_30 : decode cX7_paintOn 30 = .ok (.iload_n 3, 1) := by decide +kernel
theorem dX7_paintOn_31 : decode cX7_paintOn 31 = .ok (.iload 4, 2) := by decide +kernel
theorem dX7_paintOn_33 : decode cX7_paintOn 33 = .ok (.invokevirtual 167, 3) := by decide +kernel
theorem dX7_paintOn_36 : decode cX7_paintOn 36 = .ok (.goto 5, 3) := by decide +kernel
theorem dX7_paintOn_39 : decode cX7_paintOn 39 = .ok (.bipush (-4), 2) := by decide +kernel
theorem dX7_paintOn_41 : decode cX7_paintOn 41 = .ok (.istore 5, 2) := by decide +kernel
theorem dX7_paintOn_43 : decode cX7_paintOn 43 = .ok (.aload_n 1, 1) := by decide +kernel
theorem dX7_paintOn_44 : decode cX7_paintOn 44 = .ok (.bipush 83, 2) := by decide +kernel
theorem dX7_paintOn_46 : decode cX7_paintOn 46 = .ok (.bipush 8, 2) := by decide +kernel
theorem dX7_paintOn_48 : decode cX7_paintOn 48 = .ok (.iload_n 2, 1) := by decide +kernel
theorem dX7_paintOn_49 : decode cX7_paintOn 49 = .ok (.imul, 1) := by decide +kernel
theorem dX7_paintOn_50 : decode cX7_paintOn 50 = .ok (.iadd, 1) := by decide +kernel
theorem dX7_paintOn_51 : decode cX7_paintOn 51 = .ok (.iload 4, 2) := by decide +kernel
theorem dX7_paintOn_53 : decode cX7_paintOn 53 = .ok (.iadd, 1) := by decide +kernel
theorem dX7_paintOn_54 : decode cX7_paintOn 54 = .ok (.iload 5, 2) := by decide +kernel
theorem dX7_paintOn_56 : decode cX7_paintOn 56 = .ok (.iastore, 1) := by decide +kernel
theorem dX7_paintOn_57 : decode cX7_paintOn 57 = .ok (.aload_n 1, 1) := by decide +kernel
theorem dX7_paintOn_58 : decode cX7_paintOn 58 = .ok (.sipush 131, 3) := by decide +kernel
theorem dX7_paintOn_61 : decode cX7_paintOn 61 = .ok (.bipush 8, 2) := by decide +kernel
theorem dX7_paintOn_63 : decode cX7_paintOn 63 = .ok (.iload_n 2, 1) := by decide +kernel
theorem dX7_paintOn_64 : decode cX7_paintOn 64 = .ok (.imul, 1) := by decide +kernel
theorem dX7_paintOn_65 : decode cX7_paintOn 65 = .ok (.iadd, 1) := by decide +kernel
theorem dX7_paintOn_66 : decode cX7_paintOn 66 = .ok (.iload 4, 2) := by decide +kernel
theorem dX7_paintOn_68 : decode cX7_paintOn 68 = .ok (.iadd, 1) := by decide +kernel
theorem dX7_paintOn_69 : decode cX7_paintOn 69 = .ok (.iload 5, 2) := by decide +kernel
theorem dX7_paintOn_71 : decode cX7_paintOn 71 = .ok (.bipush (-4), 2) := by decide +kernel
theorem dX7_paintOn_73 : decode cX7_paintOn 73 = .ok (.if_icmp .ne 8, 3) := by decide +kernel
theorem dX7_paintOn_76 : decode cX7_paintOn 76 = .ok (.bipush (-4), 2) := by decide +kernel
theorem dX7_paintOn_78 : decode cX7_paintOn 78 = .ok (.goto 15, 3) := by decide +kernel
theorem dX7_paintOn_81 : decode cX7_paintOn 81 = .ok (.aload_n 0, 1) := by decide +kernel
theorem dX7_paintOn_82 : decode cX7_paintOn 82 = .ok (.getfield 53, 3) := by decide +kernel
theorem dX7_paintOn_85 : decode cX7_paintOn 85 = .ok (.bipush 8, 2) := by decide +kernel
theorem dX7_paintOn_87 : decode cX7_paintOn 87 = .ok (.iload_n 3, 1) := by decide +kernel
theorem dX7_paintOn_88 : decode cX7_paintOn 88 = .ok (.imul, 1) := by decide +kernel
theorem dX7_paintOn_89 : decode cX7_paintOn 89 = .ok (.iload 4, 2) := by decide +kernel
theorem dX7_paintOn_91 : decode cX7_paintOn 91 = .ok (.iadd, 1) := by decide +kernel
theorem dX7_paintOn_92 : decode cX7_paintOn 92 = .ok (.iaload, 1) := by decide +kernel
theorem dX7_paintOn_93 : decode cX7_paintOn 93 = .ok (.iastore, 1) := by decide +kernel
theorem dX7_paintOn_94 : decode cX7_paintOn 94 = .ok (.iinc 4 1, 3) := by decide +kernel
theorem dX7_paintOn_97 : decode cX7_paintOn 97 = .ok (.goto (-87), 3) := by decide +kernel
theorem dX7_paintOn_100 : decode cX7_paintOn 100 = .ok (.return_, 1) := by decide +kernel
theorem dX7_turned_0 : decode cX7_turned 0 = .ok (.iconst 1, 1) := by decide +kernel
theorem dX7_turned_1 : decode cX7_turned 1 = .ok (.istore 4, 2) := by decide +kernel
theorem dX7_turned_3 : decode cX7_turned 3 = .ok (.iload 4, 2) := by decide +kernel
theorem dX7_turned_5 : decode cX7_turned 5 = .ok (.aload_n 0, 1) := by decide +kernel
theorem dX7_turned_6 : decode cX7_turned 6 = .ok (.getfield 13, 3) := by decide +kernel
theorem dX7_turned_9 : decode cX7_turned 9 = .ok (.iconst 0, 1) := by decide +kernel
theorem dX7_turned_10 : decode cX7_turned 10 = .ok (.iaload, 1) := by decide +kernel
theorem dX7_turned_11 : decode cX7_turned 11 = .ok (.if_icmp .gt 46, 3) := by decide +kernel
theorem dX7_turned_14 : decode cX7_turned 14 = .ok (.iload_n 3, 1) := by decide +kernel
theorem dX7_turned_15 : decode cX7_turned 15 = .ok (.bipush (-4), 2) := by decide +kernel
theorem dX7_turned_17 : decode cX7_turned 17 = .ok (.if_icmp .eq 40, 3) := by decide +kernel
theorem dX7_turned_20 : decode cX7_turned 20 = .ok (.iload_n 3, 1) := by decide +kernel
theorem dX7_turned_21 : decode cX7_turned 21 = .ok (.iload 4, 2) := by decide +kernel
theorem dX7_turned_23 : decode cX7_turned 23 = .ok (.iadd, 1) := by decide +kernel
theorem dX7_turned_24 : decode cX7_turned 24 = .ok (.aload_n 0, 1) := by decide +kernel
theorem dX7_turned_25 : decode cX7_turned 25 = .ok (.getfield 13, 3) := by decide +kernel
theorem dX7_turned_28 : decode cX7_turned 28 = .ok (.iconst 0, 1) := by decide +kernel
theorem dX7_turned_29 : decode cX7_turned 29 = .ok (.iaload, 1) := by decide +kernel
theorem dX7_turned_30 : decode cX7_turned 30 = .ok (.irem, 1) := by decide +kernel
theorem dX7_turned_31 : decode cX7_turned 31 = .ok (.istore 5, 2) := by decide +kernel
theorem dX7_turned_33 : decode cX7_turned 33 = .ok (.aload_n 1, 1) := by decide +kernel
theorem dX7_turned_34 : decode cX7_turned 34 = .ok (.bipush 7, 2) := by decide +kernel
theorem dX7_turned_36 : decode cX7_turned 36 = .ok (.bipush 8, 2) := by decide +kernel
theorem dX7_turned_38 : decode cX7_turned 38 = .ok (.iload_n 2, 1) := by decide +kernel
theorem dX7_turned_39 : decode cX7_turned 39 = .ok (.imul, 1) := by decide +kernel
theorem dX7_turned_40 : decode cX7_turned 40 = .ok (.iadd, 1) := by decide +kernel
theorem dX7_turned_41 : decode cX7_turned 41 = .ok (.iload 5, 2) := by decide +kernel
theorem dX7_turned_43 : decode cX7_turned 43 = .ok (.iadd, 1) := by decide +kernel
theorem dX7_turned_44 : decode cX7_turned 44 = .ok (.iaload, 1) := by decide +kernel
theorem dX7_turned_45 : decode cX7_turned 45 = .ok (.ifCond .le 6, 3) := by decide +kernel
theorem dX7_turned_48 : decode cX7_turned 48 = .ok (.iload 5, 2) := by decide +kernel
theorem dX7_turned_50 : decode cX7_turned 50 = .ok (.ireturn, 1) := by decide +kernel
theorem dX7_turned_51 : decode cX7_turned 51 = .ok (.iinc 4 1, 3) := by decide +kernel
theorem dX7_turned_54 : decode cX7_turned 54 = .ok (.goto (-51), 3) := by decide +kernel
theorem dX7_turned_57 : decode cX7_turned 57 = .ok (.bipush (-4), 2) := by decide +kernel
theorem dX7_turned_59 : decode cX7_turned 59 = .ok (.ireturn, 1) := by decide +kernel
theorem dX7_points_0 : decode cX7_points 0 = .ok (.aload_n 1, 1) := by decide +kernel
theorem dX7_points_1 : decode cX7_points 1 = .ok (.bipush 71, 2) := by decide +kernel
theorem dX7_points_3 : decode cX7_points 3 = .ok (.iload_n 2, 1) := by decide +kernel
theorem dX7_points_4 : decode cX7_points 4 = .ok (.iadd, 1) := by decide +kernel
theorem dX7_points_5 : decode cX7_points 5 = .ok (.iaload, 1) := by decide +kernel
theorem dX7_points_6 : decode cX7_points 6 = .ok (.istore 5, 2) := by decide +kernel
theorem dX7_points_8 : decode cX7_points 8 = .ok (.iload 5, 2) := by decide +kernel
theorem dX7_points_10 : decode cX7_points 10 = .ok (.bipush (-4), 2) := by decide +kernel
theorem dX7_points_12 : decode cX7_points 12 = .ok (.if_icmp .ne 8, 3) := by decide +kernel
theorem dX7_points_15 : decode cX7_points 15 = .ok (.bipush (-4), 2) := by decide +kernel
theorem dX7_points_17 : decode cX7_points 17 = .ok (.goto 15, 3) := by decide +kernel
theorem dX7_points_20 : decode cX7_points 20 = .ok (.aload_n 1, 1) := by decide +kernel
theorem dX7_points_21 : decode cX7_points 21 = .ok (.bipush 83, 2) := by decide +kernel
theorem dX7_points_23 : decode cX7_points 23 = .ok (.bipush 8, 2) := by decide +kernel
theorem dX7_points_25 : decode cX7_points 25 = .ok (.iload_n 2, 1) := by decide +kernel
theorem dX7_points_26 : decode cX7_points 26 = .ok (.imul, 1) := by decide +kernel
theorem dX7_points_27 : decode cX7_points 27 = .ok (.iadd, 1) := by decide +kernel
theorem dX7_points_28 : decode cX7_points 28 = .ok (.iload 4, 2) := by decide +kernel
theorem dX7_points_30 : decode cX7_points 30 = .ok (.iadd, 1) := by decide +kernel
theorem dX7_points_31 : decode cX7_points 31 = .ok (.iaload, 1) := by decide +kernel
theorem dX7_points_32 : decode cX7_points 32 = .ok (.istore 6, 2) := by decide +kernel
theorem dX7_points_34 : decode cX7_points 34 = .ok (.iload 6, 2) := by decide +kernel
theorem dX7_points_36 : decode cX7_points 36 = .ok (.bipush (-4), 2) := by decide +kernel
theorem dX7_points_38 : decode cX7_points 38 = .ok (.if_icmp .ne 6, 3) := by decide +kernel
theorem dX7_points_41 : decode cX7_points 41 = .ok (.bipush (-4), 2) := by decide +kernel
theorem dX7_points_43 : decode cX7_points 43 = .ok (.ireturn, 1) := by decide +kernel
theorem dX7_points_44 : decode cX7_points 44 = .ok (.iload_n 3, 1) := by decide +kernel
theorem dX7_points_45 : decode cX7_points 45 = .ok (.iconst 2, 1) := by decide +kernel
theorem dX7_points_46 : decode cX7_points 46 = .ok (.if_icmp .eq 19, 3) := by decide +kernel
theorem dX7_points_49 : decode cX7_points 49 = .ok (.iload_n 3, 1) := by decide +kernel
theorem dX7_points_50 : decode cX7_points 50 = .ok (.iconst 1, 1) := by decide +kernel
theorem dX7_points_51 : decode cX7_points 51 = .ok (.if_icmp .ne 18, 3) := by decide +kernel
theorem dX7_points_54 : decode cX7_points 54 = .ok (.aload_n 1, 1) := by decide +kernel
theorem dX7_points_55 : decode cX7_points 55 = .ok (.bipush 77, 2) := by decide +kernel
theorem dX7_points_57 : decode cX7_points 57 = .ok (.iload_n 2, 1) := by decide +kernel
theorem dX7_points_58 : decode cX7_points 58 = .ok (.iadd, 1) := by decide +kernel
theorem dX7_points_59 : decode cX7_points 59 = .ok (.iaload, 1) := by decide +kernel
theorem dX7_points_60 : decode cX7_points 60 = .ok (.bipush 40, 2) := by decide +kernel
theorem dX7_points_62 : decode cX7_points 62 = .ok (.if_icmp .lt 7, 3) := by decide +kernel
theorem dX7_points_65 : decode cX7_points 65 = .ok (.iconst 1, 1) := by decide +kernel
theorem dX7_points_66 : decode cX7_points 66 = .ok (.goto 22, 3) := by decide +kernel
theorem dX7_points_69 : decode cX7_points 69 = .ok (.iload_n 3, 1) := by decide +kernel
theorem dX7_points_70 : decode cX7_points 70 = .ok (.iconst 3, 1) := by decide +kernel
theorem dX7_points_71 : decode cX7_points 71 = .ok (.if_icmp .ne 16, 3) := by decide +kernel
theorem dX7_points_74 : decode cX7_points 74 = .ok (.aload_n 1, 1) := by decide +kernel
theorem dX7_points_75 : decode cX7_points 75 = .ok (.iconst 5, 1) := by decide +kernel
theorem dX7_points_76 : decode cX7_points 76 = .ok (.iaload, 1) := by decide +kernel
theorem dX7_points_77 : decode cX7_points 77 = .ok (.iconst 2, 1) := by decide +kernel
theorem dX7_points_78 : decode cX7_points 78 = .ok (.irem, 1) := by decide +kernel
theorem dX7_points_79 : decode cX7_points 79 = .ok (.iconst 1, 1) := by decide +kernel
theorem dX7_points_80 : decode cX7_points 80 = .ok (.if_icmp .ne 7, 3) := by decide +kernel
theorem dX7_points_83 : decode cX7_points 83 = .ok (.iconst 2, 1) := by decide +kernel
theorem dX7_points_84 : decode cX7_points 84 = .ok (.goto 4, 3) := by decide +kernel
theorem dX7_points_87 : decode cX7_points 87 = .ok (.iconst 0, 1) := by decide +kernel
theorem dX7_points_88 : decode cX7_points 88 = .ok (.istore 7, 2) := by decide +kernel
theorem dX7_points_90 : decode cX7_points 90 = .ok (.iload 7, 2) := by decide +kernel
theorem dX7_points_92 : decode cX7_points 92 = .ok (.aload_n 0, 1) := by decide +kernel
theorem dX7_points_93 : decode cX7_points 93 = .ok (.getfield 171, 3) := by decide +kernel
theorem dX7_points_96 : decode cX7_points 96 = .ok (.iload_n 2, 1) := by decide +kernel
theorem dX7_points_97 : decode cX7_points 97 = .ok (.invokestatic 174, 3) := by decide +kernel
theorem dX7_points_100 : decode cX7_points 100 = .ok (.ifCond .eq 7, 3) := by decide +kernel
theorem dX7_points_103 : decode cX7_points 103 = .ok (.iconst 1, 1) := by decide +kernel
theorem dX7_points_104 : decode cX7_points 104 = .ok (.goto 4, 3) := by decide +kernel
theorem dX7_points_107 : decode cX7_points 107 = .ok (.iconst 0, 1) := by decide +kernel
theorem dX7_points_108 : decode cX7_points 108 = .ok (.iadd, 1) := by decide +kernel
theorem dX7_points_109 : decode cX7_points 109 = .ok (.istore 7, 2) := by decide +kernel
theorem dX7_points_111 : decode cX7_points 111 = .ok (.iconst 0, 1) := by decide +kernel
theorem dX7_points_112 : decode cX7_points 112 = .ok (.istore 8, 2) := by decide +kernel
theorem dX7_points_114 : decode cX7_points 114 = .ok (.iload 8, 2) := by decide +kernel
theorem dX7_points_116 : decode cX7_points 116 = .ok (.iload 7, 2) := by decide +kernel
theorem dX7_points_118 : decode cX7_points 118 = .ok (.if_icmp .ge 20, 3) := by decide +kernel
theorem dX7_points_121 : decode cX7_points 121 = .ok (.aload_n 0, 1) := by decide +kernel
theorem dX7_points_122 : decode cX7_points 122 = .ok (.aload_n 1, 1) := by decide +kernel
theorem dX7_points_123 : decode cX7_points 123 = .ok (.iload 5, 2) := by decide +kernel
theorem dX7_points_125 : decode cX7_points 125 = .ok (.iload 6, 2) := by decide +kernel
theorem dX7_points_127 : decode cX7_points 127 = .ok (.invokevirtual 178, 3) := by decide +kernel
theorem dX7_points_130 : decode cX7_points 130 = .ok (.istore 6, 2) := by decide +kernel
theorem dX7_points_132 : decode cX7_points 132 = .ok (.iinc 8 1, 3) := by decide +kernel
theorem dX7_points_135 : decode cX7_points 135 = .ok (.goto (-21), 3) := by decide +kernel
theorem dX7_points_138 : decode cX7_points 138 = .ok (.iload 6, 2) := by decide +kernel
theorem dX7_points_140 : decode cX7_points 140 = .ok (.ireturn, 1) := by decide +kernel
theorem dX7_postAt_0 : decode cX7_postAt 0 = .ok (.bipush (-4), 2) := by decide +kernel
theorem dX7_postAt_2 : decode cX7_postAt 2 = .ok (.istore_n 3, 1) := by decide +kernel
theorem dX7_postAt_3 : decode cX7_postAt 3 = .ok (.aload_n 0, 1) := by decide +kernel
theorem dX7_postAt_4 : decode cX7_postAt 4 = .ok (.getfield 17, 3) := by decide +kernel
theorem dX7_postAt_7 : decode cX7_postAt 7 = .ok (.iconst 0, 1) := by decide +kernel
theorem dX7_postAt_8 : decode cX7_postAt 8 = .ok (.iaload, 1) := by decide +kernel
theorem dX7_postAt_9 : decode cX7_postAt 9 = .ok (.iconst 1, 1) := by decide +kernel
theorem dX7_postAt_10 : decode cX7_postAt 10 = .ok (.isub, 1) := by decide +kernel
theorem dX7_postAt_11 : decode cX7_postAt 11 = .ok (.istore 4, 2) := by decide +kernel
theorem dX7_postAt_13 : decode cX7_postAt 13 = .ok (.iload 4, 2) := by decide +kernel
theorem dX7_postAt_15 : decode cX7_postAt 15 = .ok (.ifCond .lt 27, 3) := by decide +kernel
theorem dX7_postAt_18 : decode cX7_postAt 18 = .ok (.aload_n 1, 1) := by decide +kernel
theorem dX7_postAt_19 : decode cX7_postAt 19 = .ok (.bipush 71, 2) := by decide +kernel
theorem dX7_postAt_21 : decode cX7_postAt 21 = .ok (.iload 4, 2) := by decide +kernel
theorem dX7_postAt_23 : decode cX7_postAt 23 = .ok (.iadd, 1) := by decide +kernel
theorem dX7_postAt_24 : decode cX7_postAt 24 = .ok (.iaload, 1) := by decide +kernel
theorem dX7_postAt_25 : decode cX7_postAt 25 = .ok (.iload_n 2, 1) := by decide +kernel
theorem dX7_postAt_26 : decode cX7_postAt 26 = .ok (.if_icmp .ne 8, 3) := by decide +kernel
theorem dX7_postAt_29 : decode cX7_postAt 29 = .ok (.iload 4, 2) := by decide +kernel
theorem dX7_postAt_31 : decode cX7_postAt 31 = .ok (.goto 4, 3) := by decide +kernel
theorem dX7_postAt_34 : decode cX7_postAt 34 = .ok (.iload_n 3, 1) := by decide +kernel
theorem dX7_postAt_35 : decode cX7_postAt 35 = .ok (.istore_n 3, 1) := by decide +kernel
theorem dX7_postAt_36 : decode cX7_postAt 36 = .ok (.iinc 4 (-1), 3) := by decide +kernel
theorem dX7_postAt_39 : decode cX7_postAt 39 = .ok (.goto (-26), 3) := by decide +kernel
theorem dX7_postAt_42 : decode cX7_postAt 42 = .ok (.iload_n 3, 1) := by decide +kernel
theorem dX7_postAt_43 : decode cX7_postAt 43 = .ok (.ireturn, 1) := by decide +kernel
theorem dX7_goesTo_0 : decode cX7_goesTo 0 = .ok (.aload_n 1, 1) := by decide +kernel
theorem dX7_goesTo_1 : decode cX7_goesTo 1 = .ok (.iconst 0, 1) := by decide +kernel
theorem dX7_goesTo_2 : decode cX7_goesTo 2 = .ok (.iload_n 2, 1) := by decide +kernel
theorem dX7_goesTo_3 : decode cX7_goesTo 3 = .ok (.iadd, 1) := by decide +kernel
theorem dX7_goesTo_4 : decode cX7_goesTo 4 = .ok (.iaload, 1) := by decide +kernel
theorem dX7_goesTo_5 : decode cX7_goesTo 5 = .ok (.istore_n 3, 1) := by decide +kernel
theorem dX7_goesTo_6 : decode cX7_goesTo 6 = .ok (.aload_n 0, 1) := by decide +kernel
theorem dX7_goesTo_7 : decode cX7_goesTo 7 = .ok (.getfield 26, 3) := by decide +kernel
theorem dX7_goesTo_10 : decode cX7_goesTo 10 = .ok (.iload_n 2, 1) := by decide +kernel
theorem dX7_goesTo_11 : decode cX7_goesTo 11 = .ok (.iaload, 1) := by decide +kernel
theorem dX7_goesTo_12 : decode cX7_goesTo 12 = .ok (.istore 4, 2) := by decide +kernel
theorem dX7_goesTo_14 : decode cX7_goesTo 14 = .ok (.iload_n 3, 1) := by decide +kernel
theorem dX7_goesTo_15 : decode cX7_goesTo 15 = .ok (.iload 4, 2) := by decide +kernel
theorem dX7_goesTo_17 : decode cX7_goesTo 17 = .ok (.if_icmp .ne 5, 3) := by decide +kernel
theorem dX7_goesTo_20 : decode cX7_goesTo 20 = .ok (.iload_n 3, 1) := by decide +kernel
theorem dX7_goesTo_21 : decode cX7_goesTo 21 = .ok (.ireturn, 1) := by decide +kernel
theorem dX7_goesTo_22 : decode cX7_goesTo 22 = .ok (.aload_n 0, 1) := by decide +kernel
theorem dX7_goesTo_23 : decode cX7_goesTo 23 = .ok (.getfield 181, 3) := by decide +kernel
theorem dX7_goesTo_26 : decode cX7_goesTo 26 = .ok (.ifCond .eq 8, 3) := by decide +kernel
theorem dX7_goesTo_29 : decode cX7_goesTo 29 = .ok (.bipush (-4), 2) := by decide +kernel
theorem dX7_goesTo_31 : decode cX7_goesTo 31 = .ok (.goto 9, 3) := by decide +kernel
theorem dX7_goesTo_34 : decode cX7_goesTo 34 = .ok (.aload_n 0, 1) := by decide +kernel
theorem dX7_goesTo_35 : decode cX7_goesTo 35 = .ok (.aload_n 1, 1) := by decide +kernel
theorem dX7_goesTo_36 : decode cX7_goesTo 36 = .ok (.iload_n 3, 1) := by decide +kernel
theorem dX7_goesTo_37 : decode cX7_goesTo 37 = .ok (.invokevirtual 184, 3) := by decide +kernel
theorem dX7_goesTo_40 : decode cX7_goesTo 40 = .ok (.istore 5, 2) := by decide +kernel
theorem dX7_goesTo_42 : decode cX7_goesTo 42 = .ok (.bipush (-4), 2) := by decide +kernel
theorem dX7_goesTo_44 : decode cX7_goesTo 44 = .ok (.istore 6, 2) := by decide +kernel
theorem dX7_goesTo_46 : decode cX7_goesTo 46 = .ok (.iload 5, 2) := by decide +kernel
theorem dX7_goesTo_48 : decode cX7_goesTo 48 = .ok (.bipush (-4), 2) := by decide +kernel
theorem dX7_goesTo_50 : decode cX7_goesTo 50 = .ok (.if_icmp .eq 24, 3) := by decide +kernel
theorem dX7_goesTo_53 : decode cX7_goesTo 53 = .ok (.aload_n 0, 1) := by decide +kernel
theorem dX7_goesTo_54 : decode cX7_goesTo 54 = .ok (.aload_n 1, 1) := by decide +kernel
theorem dX7_goesTo_55 : decode cX7_goesTo 55 = .ok (.iload 5, 2) := by decide +kernel
theorem dX7_goesTo_57 : decode cX7_goesTo 57 = .ok (.aload_n 0, 1) := by decide +kernel
theorem dX7_goesTo_58 : decode cX7_goesTo 58 = .ok (.getfield 23, 3) := by decide +kernel
theorem dX7_goesTo_61 : decode cX7_goesTo 61 = .ok (.iload 5, 2) := by decide +kernel
theorem dX7_goesTo_63 : decode cX7_goesTo 63 = .ok (.iaload, 1) := by decide +kernel
theorem dX7_goesTo_64 : decode cX7_goesTo 64 = .ok (.iload 4, 2) := by decide +kernel
theorem dX7_goesTo_66 : decode cX7_goesTo 66 = .ok (.invokevirtual 188, 3) := by decide +kernel
theorem dX7_goesTo_69 : decode cX7_goesTo 69 = .ok (.istore 6, 2) := by decide +kernel
theorem dX7_goesTo_71 : decode cX7_goesTo 71 = .ok (.goto 100, 3) := by decide +kernel
theorem dX7_goesTo_74 : decode cX7_goesTo 74 = .ok (.aload_n 0, 1) := by decide +kernel
theorem dX7_goesTo_75 : decode cX7_goesTo 75 = .ok (.getfield 192, 3) := by decide +kernel
theorem dX7_goesTo_78 : decode cX7_goesTo 78 = .ok (.iload_n 3, 1) := by decide +kernel
theorem dX7_goesTo_79 : decode cX7_goesTo 79 = .ok (.invokestatic 174, 3) := by decide +kernel
theorem dX7_goesTo_82 : decode cX7_goesTo 82 = .ok (.ifCond .eq 16, 3) := by decide +kernel
theorem dX7_goesTo_85 : decode cX7_goesTo 85 = .ok (.aload_n 0, 1) := by decide +kernel
theorem dX7_goesTo_86 : decode cX7_goesTo 86 = .ok (.aload_n 1, 1) := by decide +kernel
theorem dX7_goesTo_87 : decode cX7_goesTo 87 = .ok (.iload_n 3, 1) := by decide +kernel
theorem dX7_goesTo_88 : decode cX7_goesTo 88 = .ok (.iload 4, 2) := by decide +kernel
theorem dX7_goesTo_90 : decode cX7_goesTo 90 = .ok (.invokevirtual 167, 3) := by decide +kernel
theorem dX7_goesTo_93 : decode cX7_goesTo 93 = .ok (.istore 6, 2) := by decide +kernel
theorem dX7_goesTo_95 : decode cX7_goesTo 95 = .ok (.goto 76, 3) := by decide +kernel
theorem dX7_goesTo_98 : decode cX7_goesTo 98 = .ok (.aload_n 0, 1) := by decide +kernel
theorem dX7_goesTo_99 : decode cX7_goesTo 99 = .ok (.getfield 13, 3) := by decide +kernel
theorem dX7_goesTo_102 : decode cX7_goesTo 102 = .ok (.iconst 0, 1) := by decide +kernel
theorem dX7_goesTo_103 : decode cX7_goesTo 103 = .ok (.iaload, 1) := by decide +kernel
theorem dX7_goesTo_104 : decode cX7_goesTo 104 = .ok (.iconst 1, 1) := by decide +kernel
theorem dX7_goesTo_105 : decode cX7_goesTo 105 = .ok (.isub, 1) := by decide +kernel
theorem dX7_goesTo_106 : decode cX7_goesTo 106 = .ok (.istore 7, 2) := by decide +kernel
theorem dX7_goesTo_108 : decode cX7_goesTo 108 = .ok (.iload 7, 2) := by decide +kernel
theorem dX7_goesTo_110 : decode cX7_goesTo 110 = .ok (.ifCond .lt 61, 3) := by decide +kernel
theorem dX7_goesTo_113 : decode cX7_goesTo 113 = .ok (.aload_n 1, 1) := by decide +kernel
theorem dX7_goesTo_114 : decode cX7_goesTo 114 = .ok (.bipush 7, 2) := by decide +kernel
theorem dX7_goesTo_116 : decode cX7_goesTo 116 = .ok (.bipush 8, 2) := by decide +kernel
theorem dX7_goesTo_118 : decode cX7_goesTo 118 = .ok (.iload_n 3, 1) := by decide +kernel
theorem dX7_goesTo_119 : decode cX7_goesTo 119 = .ok (.imul, 1) := by decide +kernel
theorem dX7_goesTo_120 : decode cX7_goesTo 120 = .ok (.iadd, 1) := by decide +kernel
theorem dX7_goesTo_121 : decode cX7_goesTo 121 = .ok (.iload 7, 2) := by decide +kernel
theorem dX7_goesTo_123 : decode cX7_goesTo 123 = .ok (.iadd, 1) := by decide +kernel
theorem dX7_goesTo_124 : decode cX7_goesTo 124 = .ok (.iaload, 1) := by decide +kernel
theorem dX7_goesTo_125 : decode cX7_goesTo 125 = .ok (.istore 8, 2) := by decide +kernel
theorem dX7_goesTo_127 : decode cX7_goesTo 127 = .ok (.iload 8, 2) := by decide +kernel
theorem dX7_goesTo_129 : decode cX7_goesTo 129 = .ok (.ifCond .le 32, 3) := by decide +kernel
theorem dX7_goesTo_132 : decode cX7_goesTo 132 = .ok (.iload 6, 2) := by decide +kernel
theorem dX7_goesTo_134 : decode cX7_goesTo 134 = .ok (.bipush (-4), 2) := by decide +kernel
theorem dX7_goesTo_136 : decode cX7_goesTo 136 = .ok (.if_icmp .eq 20, 3) := by decide +kernel
theorem dX7_goesTo_139 : decode cX7_goesTo 139 = .ok (.iload 8, 2) := by decide +kernel
theorem dX7_goesTo_141 : decode cX7_goesTo 141 = .ok (.aload_n 1, 1) := by decide +kernel
theorem dX7_goesTo_142 : decode cX7_goesTo 142 = .ok (.bipush 7, 2) := by decide +kernel
theorem dX7_goesTo_144 : decode cX7_goesTo 144 = .ok (.bipush 8, 2) := by decide +kernel
theorem dX7_goesTo_146 : decode cX7_goesTo 146 = .ok (.iload_n 3, 1) := by decide +kernel
theorem dX7_goesTo_147 : decode cX7_goesTo 147 = .ok (.imul, 1) := by decide +kernel
theorem dX7_goesTo_148 : decode cX7_goesTo 148 = .ok (.iadd, 1) := by decide +kernel
theorem dX7_goesTo_149 : decode cX7_goesTo 149 = .ok (.iload 6, 2) := by decide +kernel
theorem dX7_goesTo_151 : decode cX7_goesTo 151 = .ok (.iadd, 1) := by decide +kernel
theorem dX7_goesTo_152 : decode cX7_goesTo 152 = .ok (.iaload, 1) := by decide +kernel
theorem dX7_goesTo_153 : decode cX7_goesTo 153 = .ok (.if_icmp .gt 8, 3) := by decide +kernel
theorem dX7_goesTo_156 : decode cX7_goesTo 156 = .ok (.iload 7, 2) := by decide +kernel
theorem dX7_goesTo_158 : decode cX7_goesTo 158 = .ok (.goto 5, 3) := by decide +kernel
theorem dX7_goesTo_161 : decode cX7_goesTo 161 = .ok (.iload 6, 2) := by decide +kernel
theorem dX7_goesTo_163 : decode cX7_goesTo 163 = .ok (.istore 6, 2) := by decide +kernel
theorem dX7_goesTo_165 : decode cX7_goesTo 165 = .ok (.iinc 7 (-1), 3) := by decide +kernel
theorem dX7_goesTo_168 : decode cX7_goesTo 168 = .ok (.goto (-60), 3) := by decide +kernel
theorem dX7_goesTo_171 : decode cX7_goesTo 171 = .ok (.iload 6, 2) := by decide +kernel
theorem dX7_goesTo_173 : decode cX7_goesTo 173 = .ok (.bipush (-4), 2) := by decide +kernel
theorem dX7_goesTo_175 : decode cX7_goesTo 175 = .ok (.if_icmp .eq 23, 3) := by decide +kernel
theorem dX7_goesTo_178 : decode cX7_goesTo 178 = .ok (.aload_n 1, 1) := by decide +kernel
theorem dX7_goesTo_179 : decode cX7_goesTo 179 = .ok (.bipush 7, 2) := by decide +kernel
theorem dX7_goesTo_181 : decode cX7_goesTo 181 = .ok (.bipush 8, 2) := by decide +kernel
theorem dX7_goesTo_183 : decode cX7_goesTo 183 = .ok (.iload_n 3, 1) := by decide +kernel
theorem dX7_goesTo_184 : decode cX7_goesTo 184 = .ok (.imul, 1) := by decide +kernel
theorem dX7_goesTo_185 : decode cX7_goesTo 185 = .ok (.iadd, 1) := by decide +kernel
theorem dX7_goesTo_186 : decode cX7_goesTo 186 = .ok (.iload 6, 2) := by decide +kernel
theorem dX7_goesTo_188 : decode cX7_goesTo 188 = .ok (.iadd, 1) := by decide +kernel
theorem dX7_goesTo_189 : decode cX7_goesTo 189 = .ok (.iaload, 1) := by decide +kernel
theorem dX7_goesTo_190 : decode cX7_goesTo 190 = .ok (.ifCond .le 8, 3) := by decide +kernel
theorem dX7_goesTo_193 : decode cX7_goesTo 193 = .ok (.iload 6, 2) := by decide +kernel
theorem dX7_goesTo_195 : decode cX7_goesTo 195 = .ok (.goto 4, 3) := by decide +kernel
theorem dX7_goesTo_198 : decode cX7_goesTo 198 = .ok (.iload_n 3, 1) := by decide +kernel
theorem dX7_goesTo_199 : decode cX7_goesTo 199 = .ok (.ireturn, 1) := by decide +kernel
theorem dX7_passHour_0 : decode cX7_passHour 0 = .ok (.iconst 0, 1) := by decide +kernel
theorem dX7_passHour_1 : decode cX7_passHour 1 = .ok (.istore_n 2, 1) := by decide +kernel
theorem dX7_passHour_2 : decode cX7_passHour 2 = .ok (.iload_n 2, 1) := by decide +kernel
theorem dX7_passHour_3 : decode cX7_passHour 3 = .ok (.aload_n 0, 1) := by decide +kernel
theorem dX7_passHour_4 : decode cX7_passHour 4 = .ok (.getfield 20, 3) := by decide +kernel
theorem dX7_passHour_7 : decode cX7_passHour 7 = .ok (.iconst 0, 1) := by decide +kernel
theorem dX7_passHour_8 : decode cX7_passHour 8 = .ok (.iaload, 1) := by decide +kernel
theorem dX7_passHour_9 : decode cX7_passHour 9 = .ok (.if_icmp .ge 21, 3) := by decide +kernel
theorem dX7_passHour_12 : decode cX7_passHour 12 = .ok (.aload_n 0, 1) := by decide +kernel
theorem dX7_passHour_13 : decode cX7_passHour 13 = .ok (.getfield 56, 3) := by decide +kernel
theorem dX7_passHour_16 : decode cX7_passHour 16 = .ok (.iload_n 2, 1) := by decide +kernel
theorem dX7_passHour_17 : decode cX7_passHour 17 = .ok (.aload_n 0, 1) := by decide +kernel
theorem dX7_passHour_18 : decode cX7_passHour 18 = .ok (.aload_n 1, 1) := by decide +kernel
theorem dX7_passHour_19 : decode cX7_passHour 19 = .ok (.iload_n 2, 1) := by decide +kernel
theorem dX7_passHour_20 : decode cX7_passHour 20 = .ok (.invokevirtual 195, 3) := by decide +kernel
theorem dX7_passHour_23 : decode cX7_passHour 23 = .ok (.iastore, 1) := by decide +kernel
theorem dX7_passHour_24 : decode cX7_passHour 24 = .ok (.iinc 2 1, 3) := by decide +kernel
theorem dX7_passHour_27 : decode cX7_passHour 27 = .ok (.goto (-25), 3) := by decide +kernel
theorem dX7_passHour_30 : decode cX7_passHour 30 = .ok (.iconst 0, 1) := by decide +kernel
theorem dX7_passHour_31 : decode cX7_passHour 31 = .ok (.istore_n 2, 1) := by decide +kernel
theorem dX7_passHour_32 : decode cX7_passHour 32 = .ok (.iload_n 2, 1) := by decide +kernel
theorem dX7_passHour_33 : decode cX7_passHour 33 = .ok (.aload_n 0, 1) := by decide +kernel
theorem dX7_passHour_34 : decode cX7_passHour 34 = .ok (.getfield 20, 3) := by decide +kernel
theorem dX7_passHour_37 : decode cX7_passHour 37 = .ok (.iconst 0, 1) := by decide +kernel
theorem dX7_passHour_38 : decode cX7_passHour 38 = .ok (.iaload, 1) := by decide +kernel
theorem dX7_passHour_39 : decode cX7_passHour 39 = .ok (.if_icmp .ge 20, 3) := by decide +kernel
theorem dX7_passHour_42 : decode cX7_passHour 42 = .ok (.aload_n 1, 1) := by decide +kernel
theorem dX7_passHour_43 : decode cX7_passHour 43 = .ok (.iconst 0, 1) := by decide +kernel
theorem dX7_passHour_44 : decode cX7_passHour 44 = .ok (.iload_n 2, 1) := by decide +kernel
theorem dX7_passHour_45 : decode cX7_passHour 45 = .ok (.iadd, 1) := by decide +kernel
theorem dX7_passHour_46 : decode cX7_passHour 46 = .ok (.aload_n 0, 1) := by decide +kernel
theorem dX7_passHour_47 : decode cX7_passHour 47 = .ok (.getfield 56, 3) := by decide +kernel
theorem dX7_passHour_50 : decode cX7_passHour 50 = .ok (.iload_n 2, 1) := by decide +kernel
theorem dX7_passHour_51 : decode cX7_passHour 51 = .ok (.iaload, 1) := by decide +kernel
theorem dX7_passHour_52 : decode cX7_passHour 52 = .ok (.iastore, 1) := by decide +kernel
theorem dX7_passHour_53 : decode cX7_passHour 53 = .ok (.iinc 2 1, 3) := by decide +kernel
theorem dX7_passHour_56 : decode cX7_passHour 56 = .ok (.goto (-24), 3) := by decide +kernel
theorem dX7_passHour_59 : decode cX7_passHour 59 = .ok (.aload_n 1, 1) := by decide +kernel
theorem dX7_passHour_60 : decode cX7_passHour 60 = .ok (.iconst 5, 1) := by decide +kernel
theorem dX7_passHour_61 : decode cX7_passHour 61 = .ok (.dup2, 1) := by decide +kernel
theorem dX7_passHour_62 : decode cX7_passHour 62 = .ok (.iaload, 1) := by decide +kernel
theorem dX7_passHour_63 : decode cX7_passHour 63 = .ok (.iconst 1, 1) := by decide +kernel
theorem dX7_passHour_64 : decode cX7_passHour 64 = .ok (.iadd, 1) := by decide +kernel
theorem dX7_passHour_65 : decode cX7_passHour 65 = .ok (.iastore, 1) := by decide +kernel
theorem dX7_passHour_66 : decode cX7_passHour 66 = .ok (.return_, 1) := by decide +kernel
theorem dX7_passYear_0 : decode cX7_passYear 0 = .ok (.iconst 0, 1) := by decide +kernel
theorem dX7_passYear_1 : decode cX7_passYear 1 = .ok (.istore_n 2, 1) := by decide +kernel
theorem dX7_passYear_2 : decode cX7_passYear 2 = .ok (.iconst 0, 1) := by decide +kernel
theorem dX7_passYear_3 : decode cX7_passYear 3 = .ok (.istore_n 3, 1) := by decide +kernel
theorem dX7_passYear_4 : decode cX7_passYear 4 = .ok (.iload_n 3, 1) := by decide +kernel
theorem dX7_passYear_5 : decode cX7_passYear 5 = .ok (.aload_n 0, 1) := by decide +kernel
theorem dX7_passYear_6 : decode cX7_passYear 6 = .ok (.getfield 17, 3) := by decide +kernel
theorem dX7_passYear_9 : decode cX7_passYear 9 = .ok (.iconst 0, 1) := by decide +kernel
theorem dX7_passYear_10 : decode cX7_passYear 10 = .ok (.iaload, 1) := by decide +kernel
theorem dX7_passYear_11 : decode cX7_passYear 11 = .ok (.if_icmp .ge 52, 3) := by decide +kernel
theorem dX7_passYear_14 : decode cX7_passYear 14 = .ok (.aload_n 1, 1) := by decide +kernel
theorem dX7_passYear_15 : decode cX7_passYear 15 = .ok (.bipush 71, 2) := by decide +kernel
theorem dX7_passYear_17 : decode cX7_passYear 17 = .ok (.iload_n 3, 1) := by decide +kernel
theorem dX7_passYear_18 : decode cX7_passYear 18 = .ok (.iadd, 1) := by decide +kernel
theorem dX7_passYear_19 : decode cX7_passYear 19 = .ok (.iaload, 1) := by decide +kernel
theorem dX7_passYear_20 : decode cX7_passYear 20 = .ok (.bipush (-4), 2) := by decide +kernel
theorem dX7_passYear_22 : decode cX7_passYear 22 = .ok (.if_icmp .eq 35, 3) := by decide +kernel
theorem dX7_passYear_25 : decode cX7_passYear 25 = .ok (.aload_n 1, 1) := by decide +kernel
theorem dX7_passYear_26 : decode cX7_passYear 26 = .ok (.bipush 77, 2) := by decide +kernel
theorem dX7_passYear_28 : decode cX7_passYear 28 = .ok (.iload_n 3, 1) := by decide +kernel
theorem dX7_passYear_29 : decode cX7_passYear 29 = .ok (.iadd, 1) := by decide +kernel
theorem dX7_passYear_30 : decode cX7_passYear 30 = .ok (.dup2, 1) := by decide +kernel
theorem dX7_passYear_31 : decode cX7_passYear 31 = .ok (.iaload, 1) := by decide +kernel
theorem dX7_passYear_32 : decode cX7_passYear 32 = .ok (.iconst 1, 1) := by decide +kernel
theorem dX7_passYear_33 : decode cX7_passYear 33 = .ok (.iadd, 1) := by decide +kernel
theorem dX7_passYear_34 : decode cX7_passYear 34 = .ok (.iastore, 1) := by decide +kernel
theorem dX7_passYear_35 : decode cX7_passYear 35 = .ok (.aload_n 1, 1) := by decide +kernel
theorem dX7_passYear_36 : decode cX7_passYear 36 = .ok (.bipush 77, 2) := by decide +kernel
theorem dX7_passYear_38 : decode cX7_passYear 38 = .ok (.iload_n 3, 1) := by decide +kernel
theorem dX7_passYear_39 : decode cX7_passYear 39 = .ok (.iadd, 1) := by decide +kernel
theorem dX7_passYear_40 : decode cX7_passYear 40 = .ok (.iaload, 1) := by decide +kernel
theorem dX7_passYear_41 : decode cX7_passYear 41 = .ok (.bipush 60, 2) := by decide +kernel
theorem dX7_passYear_43 : decode cX7_passYear 43 = .ok (.if_icmp .ne 14, 3) := by decide +kernel
theorem dX7_passYear_46 : decode cX7_passYear 46 = .ok (.aload_n 1, 1) := by decide +kernel
theorem dX7_passYear_47 : decode cX7_passYear 47 = .ok (.bipush 71, 2) := by decide +kernel
theorem dX7_passYear_49 : decode cX7_passYear 49 = .ok (.iload_n 3, 1) := by decide +kernel
theorem dX7_passYear_50 : decode cX7_passYear 50 = .ok (.iadd, 1) := by decide +kernel
theorem dX7_passYear_51 : decode cX7_passYear 51 = .ok (.bipush (-4), 2) := by decide +kernel
theorem dX7_passYear_53 : decode cX7_passYear 53 = .ok (.iastore, 1) := by decide +kernel
theorem dX7_passYear_54 : decode cX7_passYear 54 = .ok (.iinc 2 1, 3) := by decide +kernel
theorem dX7_passYear_57 : decode cX7_passYear 57 = .ok (.iinc 3 1, 3) := by decide +kernel
theorem dX7_passYear_60 : decode cX7_passYear 60 = .ok (.goto (-56), 3) := by decide +kernel
theorem dX7_passYear_63 : decode cX7_passYear 63 = .ok (.aload_n 1, 1) := by decide +kernel
theorem dX7_passYear_64 : decode cX7_passYear 64 = .ok (.bipush 6, 2) := by decide +kernel
theorem dX7_passYear_66 : decode cX7_passYear 66 = .ok (.dup2, 1) := by decide +kernel
theorem dX7_passYear_67 : decode cX7_passYear 67 = .ok (.iaload, 1) := by decide +kernel
theorem dX7_passYear_68 : decode cX7_passYear 68 = .ok (.iconst 1, 1) := by decide +kernel
theorem dX7_passYear_69 : decode cX7_passYear 69 = .ok (.iadd, 1) := by decide +kernel
theorem dX7_passYear_70 : decode cX7_passYear 70 = .ok (.iastore, 1) := by decide +kernel
theorem dX7_passYear_71 : decode cX7_passYear 71 = .ok (.iload_n 2, 1) := by decide +kernel
theorem dX7_passYear_72 : decode cX7_passYear 72 = .ok (.ireturn, 1) := by decide +kernel
theorem dX7_comeTo_0 : decode cX7_comeTo 0 = .ok (.iconst 0, 1) := by decide +kernel
theorem dX7_comeTo_1 : decode cX7_comeTo 1 = .ok (.istore_n 2, 1) := by decide +kernel
theorem dX7_comeTo_2 : decode cX7_comeTo 2 = .ok (.iconst 0, 1) := by decide +kernel
theorem dX7_comeTo_3 : decode cX7_comeTo 3 = .ok (.istore_n 3, 1) := by decide +kernel
theorem dX7_comeTo_4 : decode cX7_comeTo 4 = .ok (.iload_n 3, 1) := by decide +kernel
theorem dX7_comeTo_5 : decode cX7_comeTo 5 = .ok (.aload_n 0, 1) := by decide +kernel
theorem dX7_comeTo_6 : decode cX7_comeTo 6 = .ok (.getfield 20, 3) := by decide +kernel
theorem dX7_comeTo_9 : decode cX7_comeTo 9 = .ok (.iconst 0, 1) := by decide +kernel
theorem dX7_comeTo_10 : decode cX7_comeTo 10 = .ok (.iaload, 1) := by decide +kernel
theorem dX7_comeTo_11 : decode cX7_comeTo 11 = .ok (.if_icmp .ge 31, 3) := by decide +kernel
theorem dX7_comeTo_14 : decode cX7_comeTo 14 = .ok (.iload_n 2, 1) := by decide +kernel
theorem dX7_comeTo_15 : decode cX7_comeTo 15 = .ok (.aload_n 1, 1) := by decide +kernel
theorem dX7_comeTo_16 : decode cX7_comeTo 16 = .ok (.iconst 0, 1) := by decide +kernel
theorem dX7_comeTo_17 : decode cX7_comeTo 17 = .ok (.iload_n 3, 1) := by decide +kernel
theorem dX7_comeTo_18 : decode cX7_comeTo 18 = .ok (.iadd, 1) := by decide +kernel
theorem dX7_comeTo_19 : decode cX7_comeTo 19 = .ok (.iaload, 1) := by decide +kernel
theorem dX7_comeTo_20 : decode cX7_comeTo 20 = .ok (.aload_n 0, 1) := by decide +kernel
theorem dX7_comeTo_21 : decode cX7_comeTo 21 = .ok (.getfield 26, 3) := by decide +kernel
theorem dX7_comeTo_24 : decode cX7_comeTo 24 = .ok (.iload_n 3, 1) := by decide +kernel
theorem dX7_comeTo_25 : decode cX7_comeTo 25 = .ok (.iaload, 1) := by decide +kernel
theorem dX7_comeTo_26 : decode cX7_comeTo 26 = .ok (.if_icmp .ne 7, 3) := by decide +kernel
theorem dX7_comeTo_29 : decode cX7_comeTo 29 = .ok (.iconst 1, 1) := by decide +kernel
theorem dX7_comeTo_30 : decode cX7_comeTo 30 = .ok (.goto 4, 3) := by decide +kernel
theorem dX7_comeTo_33 : decode cX7_comeTo 33 = .ok (.iconst 0, 1) := by decide +kernel
theorem dX7_comeTo_34 : decode cX7_comeTo 34 = .ok (.iadd, 1) := by decide +kernel
theorem dX7_comeTo_35 : decode cX7_comeTo 35 = .ok (.istore_n 2, 1) := by decide +kernel
theorem dX7_comeTo_36 : decode cX7_comeTo 36 = .ok (.iinc 3 1, 3) := by decide +kernel
theorem dX7_comeTo_39 : decode cX7_comeTo 39 = .ok (.goto (-35), 3) := by decide +kernel
theorem dX7_comeTo_42 : decode cX7_comeTo 42 = .ok (.iload_n 2, 1) := by decide +kernel
theorem dX7_comeTo_43 : decode cX7_comeTo 43 = .ok (.ireturn, 1) := by decide +kernel
theorem dX7_comeBy_0 : decode cX7_comeBy 0 = .ok (.aload_n 0, 1) := by decide +kernel
theorem dX7_comeBy_1 : decode cX7_comeBy 1 = .ok (.aload_n 0, 1) := by decide +kernel
theorem dX7_comeBy_2 : decode cX7_comeBy 2 = .ok (.getfield 50, 3) := by decide +kernel
theorem dX7_comeBy_5 : decode cX7_comeBy 5 = .ok (.invokevirtual 146, 3) := by decide +kernel
theorem dX7_comeBy_8 : decode cX7_comeBy 8 = .ok (.iconst 0, 1) := by decide +kernel
theorem dX7_comeBy_9 : decode cX7_comeBy 9 = .ok (.istore_n 1, 1) := by decide +kernel
theorem dX7_comeBy_10 : decode cX7_comeBy 10 = .ok (.iload_n 1, 1) := by decide +kernel
theorem dX7_comeBy_11 : decode cX7_comeBy 11 = .ok (.bipush 40, 2) := by decide +kernel
theorem dX7_comeBy_13 : decode cX7_comeBy 13 = .ok (.if_icmp .ge 17, 3) := by decide +kernel
theorem dX7_comeBy_16 : decode cX7_comeBy 16 = .ok (.aload_n 0, 1) := by decide +kernel
theorem dX7_comeBy_17 : decode cX7_comeBy 17 = .ok (.aload_n 0, 1) := by decide +kernel
theorem dX7_comeBy_18 : decode cX7_comeBy 18 = .ok (.getfield 50, 3) := by decide +kernel
theorem dX7_comeBy_21 : decode cX7_comeBy 21 = .ok (.invokevirtual 198, 3) := by decide +kernel
theorem dX7_comeBy_24 : decode cX7_comeBy 24 = .ok (.iinc 1 1, 3) := by decide +kernel
theorem dX7_comeBy_27 : decode cX7_comeBy 27 = .ok (.goto (-17), 3) := by decide +kernel
theorem dX7_comeBy_30 : decode cX7_comeBy 30 = .ok (.aload_n 0, 1) := by decide +kernel
theorem dX7_comeBy_31 : decode cX7_comeBy 31 = .ok (.aload_n 0, 1) := by decide +kernel
theorem dX7_comeBy_32 : decode cX7_comeBy 32 = .ok (.getfield 50, 3) := by decide +kernel
theorem dX7_comeBy_35 : decode cX7_comeBy 35 = .ok (.invokevirtual 201, 3) := by decide +kernel
theorem dX7_comeBy_38 : decode cX7_comeBy 38 = .ok (.ireturn, 1) := by decide +kernel
theorem dX7_roadsOf_0 : decode cX7_roadsOf 0 = .ok (.iconst 0, 1) := by decide +kernel
theorem dX7_roadsOf_1 : decode cX7_roadsOf 1 = .ok (.istore_n 2, 1) := by decide +kernel
theorem dX7_roadsOf_2 : decode cX7_roadsOf 2 = .ok (.iconst 0, 1) := by decide +kernel
theorem dX7_roadsOf_3 : decode cX7_roadsOf 3 = .ok (.istore_n 3, 1) := by decide +kernel
theorem dX7_roadsOf_4 : decode cX7_roadsOf 4 = .ok (.iload_n 3, 1) := by decide +kernel
theorem dX7_roadsOf_5 : decode cX7_roadsOf 5 = .ok (.bipush 8, 2) := by decide +kernel
theorem dX7_roadsOf_7 : decode cX7_roadsOf 7 = .ok (.if_icmp .ge 63, 3) := by decide +kernel
theorem dX7_roadsOf_10 : decode cX7_roadsOf 10 = .ok (.iload_n 3, 1) := by decide +kernel
theorem dX7_roadsOf_11 : decode cX7_roadsOf 11 = .ok (.iconst 1, 1) := by decide +kernel
theorem dX7_roadsOf_12 : decode cX7_roadsOf 12 = .ok (.iadd, 1) := by decide +kernel
theorem dX7_roadsOf_13 : decode cX7_roadsOf 13 = .ok (.istore 4, 2) := by decide +kernel
theorem dX7_roadsOf_15 : decode cX7_roadsOf 15 = .ok (.iload 4, 2) := by decide +kernel
theorem dX7_roadsOf_17 : decode cX7_roadsOf 17 = .ok (.bipush 8, 2) := by decide +kernel
theorem dX7_roadsOf_19 : decode cX7_roadsOf 19 = .ok (.if_icmp .ge 45, 3) := by decide +kernel
theorem dX7_roadsOf_22 : decode cX7_roadsOf 22 = .ok (.aload_n 0, 1) := by decide +kernel
theorem dX7_roadsOf_23 : decode cX7_roadsOf 23 = .ok (.bipush 7, 2) := by decide +kernel
theorem dX7_roadsOf_25 : decode cX7_roadsOf 25 = .ok (.bipush 8, 2) := by decide +kernel
theorem dX7_roadsOf_27 : decode cX7_roadsOf 27 = .ok (.iload_n 3, 1) := by decide +kernel
theorem dX7_roadsOf_28 : decode cX7_roadsOf 28 = .ok (.imul, 1) := by decide +kernel
theorem dX7_roadsOf_29 : decode cX7_roadsOf 29 = .ok (.iadd, 1) := by decide +kernel
theorem dX7_roadsOf_30 : decode cX7_roadsOf 30 = .ok (.iload 4, 2) := by decide +kernel
theorem dX7_roadsOf_32 : decode cX7_roadsOf 32 = .ok (.iadd, 1) := by decide +kernel
theorem dX7_roadsOf_33 : decode cX7_roadsOf 33 = .ok (.iaload, 1) := by decide +kernel
theorem dX7_roadsOf_34 : decode cX7_roadsOf 34 = .ok (.istore 5, 2) := by decide +kernel
theorem dX7_roadsOf_36 : decode cX7_roadsOf 36 = .ok (.iload_n 2, 1) := by decide +kernel
theorem dX7_roadsOf_37 : decode cX7_roadsOf 37 = .ok (.iload_n 1, 1) := by decide +kernel
theorem dX7_roadsOf_38 : decode cX7_roadsOf 38 = .ok (.ifCond .eq 8, 3) := by decide +kernel
theorem dX7_roadsOf_41 : decode cX7_roadsOf 41 = .ok (.iload 5, 2) := by decide +kernel
theorem dX7_roadsOf_43 : decode cX7_roadsOf 43 = .ok (.goto 13, 3) := by decide +kernel
theorem dX7_roadsOf_46 : decode cX7_roadsOf 46 = .ok (.iload 5, 2) := by decide +kernel
theorem dX7_roadsOf_48 : decode cX7_roadsOf 48 = .ok (.ifCond .le 7, 3) := by decide +kernel
theorem dX7_roadsOf_51 : decode cX7_roadsOf 51 = .ok (.iconst 1, 1) := by decide +kernel
theorem dX7_roadsOf_52 : decode cX7_roadsOf 52 = .ok (.goto 4, 3) := by decide +kernel
theorem dX7_roadsOf_55 : decode cX7_roadsOf 55 = .ok (.iconst 0, 1) := by decide +kernel
theorem dX7_roadsOf_56 : decode cX7_roadsOf 56 = .ok (.iadd, 1) := by decide +kernel
theorem dX7_roadsOf_57 : decode cX7_roadsOf 57 = .ok (.istore_n 2, 1) := by decide +kernel
theorem dX7_roadsOf_58 : decode cX7_roadsOf 58 = .ok (.iinc 4 1, 3) := by decide +kernel
theorem dX7_roadsOf_61 : decode cX7_roadsOf 61 = .ok (.goto (-46), 3) := by decide +kernel
theorem dX7_roadsOf_64 : decode cX7_roadsOf 64 = .ok (.iinc 3 1, 3) := by decide +kernel
theorem dX7_roadsOf_67 : decode cX7_roadsOf 67 = .ok (.goto (-63), 3) := by decide +kernel
theorem dX7_roadsOf_70 : decode cX7_roadsOf 70 = .ok (.iload_n 2, 1) := by decide +kernel
theorem dX7_roadsOf_71 : decode cX7_roadsOf 71 = .ok (.ireturn, 1) := by decide +kernel
theorem dX7_retiredOf_0 : decode cX7_retiredOf 0 = .ok (.iconst 0, 1) := by decide +kernel
theorem dX7_retiredOf_1 : decode cX7_retiredOf 1 = .ok (.istore_n 2, 1) := by decide +kernel
theorem dX7_retiredOf_2 : decode cX7_retiredOf 2 = .ok (.iconst 0, 1) := by decide +kernel
theorem dX7_retiredOf_3 : decode cX7_retiredOf 3 = .ok (.istore_n 3, 1) := by decide +kernel
theorem dX7_retiredOf_4 : decode cX7_retiredOf 4 = .ok (.iload_n 3, 1) := by decide +kernel
theorem dX7_retiredOf_5 : decode cX7_retiredOf 5 = .ok (.aload_n 0, 1) := by decide +kernel
theorem dX7_retiredOf_6 : decode cX7_retiredOf 6 = .ok (.getfield 17, 3) := by decide +kernel
theorem dX7_retiredOf_9 : decode cX7_retiredOf 9 = .ok (.iconst 0, 1) := by decide +kernel
theorem dX7_retiredOf_10 : decode cX7_retiredOf 10 = .ok (.iaload, 1) := by decide +kernel
theorem dX7_retiredOf_11 : decode cX7_retiredOf 11 = .ok (.if_icmp .ge 28, 3) := by decide +kernel
theorem dX7_retiredOf_14 : decode cX7_retiredOf 14 = .ok (.iload_n 2, 1) := by decide +kernel
theorem dX7_retiredOf_15 : decode cX7_retiredOf 15 = .ok (.aload_n 1, 1) := by decide +kernel
theorem dX7_retiredOf_16 : decode cX7_retiredOf 16 = .ok (.bipush 71, 2) := by decide +kernel
theorem dX7_retiredOf_18 : decode cX7_retiredOf 18 = .ok (.iload_n 3, 1) := by decide +kernel
theorem dX7_retiredOf_19 : decode cX7_retiredOf 19 = .ok (.iadd, 1) := by decide +kernel
theorem dX7_retiredOf_20 : decode cX7_retiredOf 20 = .ok (.iaload, 1) := by decide +kernel
theorem dX7_retiredOf_21 : decode cX7_retiredOf 21 = .ok (.bipush (-4), 2) := by decide +kernel
theorem dX7_retiredOf_23 : decode cX7_retiredOf 23 = .ok (.if_icmp .ne 7, 3) := by decide +kernel
theorem dX7_retiredOf_26 : decode cX7_retiredOf 26 = .ok (.iconst 1, 1) := by decide +kernel
theorem dX7_retiredOf_27 : decode cX7_retiredOf 27 = .ok (.goto 4, 3) := by decide +kernel
theorem dX7_retiredOf_30 : decode cX7_retiredOf 30 = .ok (.iconst 0, 1) := by decide +kernel
theorem dX7_retiredOf_31 : decode cX7_retiredOf 31 = .ok (.iadd, 1) := by decide +kernel
theorem dX7_retiredOf_32 : decode cX7_retiredOf 32 = .ok (.istore_n 2, 1) := by decide +kernel
theorem dX7_retiredOf_33 : decode cX7_retiredOf 33 = .ok (.iinc 3 1, 3) := by decide +kernel
theorem dX7_retiredOf_36 : decode cX7_retiredOf 36 = .ok (.goto (-32), 3) := by decide +kernel
theorem dX7_retiredOf_39 : decode cX7_retiredOf 39 = .ok (.iload_n 2, 1) := by decide +kernel
theorem dX7_retiredOf_40 : decode cX7_retiredOf 40 = .ok (.ireturn, 1) := by decide +kernel
theorem dX7_road_0 : decode cX7_road 0 = .ok (.aload_n 0, 1) := by decide +kernel
theorem dX7_road_1 : decode cX7_road 1 = .ok (.iload_n 1, 1) := by decide +kernel
theorem dX7_road_2 : decode cX7_road 2 = .ok (.invokevirtual 205, 3) := by decide +kernel
theorem dX7_road_5 : decode cX7_road 5 = .ok (.ifCond .eq 16, 3) := by decide +kernel
theorem dX7_road_8 : decode cX7_road 8 = .ok (.aload_n 0, 1) := by decide +kernel
theorem dX7_road_9 : decode cX7_road 9 = .ok (.iload_n 2, 1) := by decide +kernel
theorem dX7_road_10 : decode cX7_road 10 = .ok (.invokevirtual 205, 3) := by decide +kernel
theorem dX7_road_13 : decode cX7_road 13 = .ok (.ifCond .eq 8, 3) := by decide +kernel
theorem dX7_road_16 : decode cX7_road 16 = .ok (.iload_n 1, 1) := by decide +kernel
theorem dX7_road_17 : decode cX7_road 17 = .ok (.iload_n 2, 1) := by decide +kernel
theorem dX7_road_18 : decode cX7_road 18 = .ok (.if_icmp .ne 5, 3) := by decide +kernel
theorem dX7_road_21 : decode cX7_road 21 = .ok (.iconst (-1), 1) := by decide +kernel
theorem dX7_road_22 : decode cX7_road 22 = .ok (.ireturn, 1) := by decide +kernel
theorem dX7_road_23 : decode cX7_road 23 = .ok (.aload_n 0, 1) := by decide +kernel
theorem dX7_road_24 : decode cX7_road 24 = .ok (.getfield 41, 3) := by decide +kernel
theorem dX7_road_27 : decode cX7_road 27 = .ok (.bipush 7, 2) := by decide +kernel
theorem dX7_road_29 : decode cX7_road 29 = .ok (.bipush 8, 2) := by decide +kernel
theorem dX7_road_31 : decode cX7_road 31 = .ok (.iload_n 1, 1) := by decide +kernel
theorem dX7_road_32 : decode cX7_road 32 = .ok (.imul, 1) := by decide +kernel
theorem dX7_road_33 : decode cX7_road 33 = .ok (.iadd, 1) := by decide +kernel
theorem dX7_road_34 : decode cX7_road 34 = .ok (.iload_n 2, 1) := by decide +kernel
theorem dX7_road_35 : decode cX7_road 35 = .ok (.iadd, 1) := by decide +kernel
theorem dX7_road_36 : decode cX7_road 36 = .ok (.iaload, 1) := by decide +kernel
theorem dX7_road_37 : decode cX7_road 37 = .ok (.istore_n 3, 1) := by decide +kernel
theorem dX7_road_38 : decode cX7_road 38 = .ok (.iload_n 3, 1) := by decide +kernel
theorem dX7_road_39 : decode cX7_road 39 = .ok (.ifCond .ne 8, 3) := by decide +kernel
theorem dX7_road_42 : decode cX7_road 42 = .ok (.bipush (-4), 2) := by decide +kernel
theorem dX7_road_44 : decode cX7_road 44 = .ok (.goto 4, 3) := by decide +kernel
theorem dX7_road_47 : decode cX7_road 47 = .ok (.iload_n 3, 1) := by decide +kernel
theorem dX7_road_48 : decode cX7_road 48 = .ok (.ireturn, 1) := by decide +kernel
theorem dX7_post_0 : decode cX7_post 0 = .ok (.aload_n 0, 1) := by decide +kernel
theorem dX7_post_1 : decode cX7_post 1 = .ok (.iload_n 1, 1) := by decide +kernel
theorem dX7_post_2 : decode cX7_post 2 = .ok (.invokevirtual 209, 3) := by decide +kernel
theorem dX7_post_5 : decode cX7_post 5 = .ok (.ifCond .ne 5, 3) := by decide +kernel
theorem dX7_post_8 : decode cX7_post 8 = .ok (.iconst (-1), 1) := by decide +kernel
theorem dX7_post_9 : decode cX7_post 9 = .ok (.ireturn, 1) := by decide +kernel
theorem dX7_post_10 : decode cX7_post 10 = .ok (.iload_n 2, 1) := by decide +kernel
theorem dX7_post_11 : decode cX7_post 11 = .ok (.tableswitch 52 0 2 #[25, 32, 42], 25) := by decide +kernel
theorem dX7_post_36 : decode cX7_post 36 = .ok (.aload_n 0, 1) := by decide +kernel
theorem dX7_post_37 : decode cX7_post 37 = .ok (.getfield 23, 3) := by decide +kernel
theorem dX7_post_40 : decode cX7_post 40 = .ok (.iload_n 1, 1) := by decide +kernel
theorem dX7_post_41 : decode cX7_post 41 = .ok (.iaload, 1) := by decide +kernel
theorem dX7_post_42 : decode cX7_post 42 = .ok (.ireturn, 1) := by decide +kernel
theorem dX7_post_43 : decode cX7_post 43 = .ok (.aload_n 0, 1) := by decide +kernel
theorem dX7_post_44 : decode cX7_post 44 = .ok (.getfield 41, 3) := by decide +kernel
theorem dX7_post_47 : decode cX7_post 47 = .ok (.bipush 71, 2) := by decide +kernel
theorem dX7_post_49 : decode cX7_post 49 = .ok (.iload_n 1, 1) := by decide +kernel
theorem dX7_post_50 : decode cX7_post 50 = .ok (.iadd, 1) := by decide +kernel
theorem dX7_post_51 : decode cX7_post 51 = .ok (.iaload, 1) := by decide +kernel
theorem dX7_post_52 : decode cX7_post 52 = .ok (.ireturn, 1) := by decide +kernel
theorem dX7_post_53 : decode cX7_post 53 = .ok (.aload_n 0, 1) := by decide +kernel
theorem dX7_post_54 : decode cX7_post 54 = .ok (.getfield 41, 3) := by decide +kernel
theorem dX7_post_57 : decode cX7_post 57 = .ok (.bipush 77, 2) := by decide +kernel
theorem dX7_post_59 : decode cX7_post 59 = .ok (.iload_n 1, 1) := by decide +kernel
theorem dX7_post_60 : decode cX7_post 60 = .ok (.iadd, 1) := by decide +kernel
theorem dX7_post_61 : decode cX7_post 61 = .ok (.iaload, 1) := by decide +kernel
theorem dX7_post_62 : decode cX7_post 62 = .ok (.ireturn, 1) := by decide +kernel
theorem dX7_post_63 : decode cX7_post 63 = .ok (.iconst (-1), 1) := by decide +kernel
theorem dX7_post_64 : decode cX7_post 64 = .ok (.ireturn, 1) := by decide +kernel
theorem dX7_arm_0 : decode cX7_arm 0 = .ok (.aload_n 0, 1) := by decide +kernel
theorem dX7_arm_1 : decode cX7_arm 1 = .ok (.iload_n 1, 1) := by decide +kernel
theorem dX7_arm_2 : decode cX7_arm 2 = .ok (.invokevirtual 209, 3) := by decide +kernel
theorem dX7_arm_5 : decode cX7_arm 5 = .ok (.ifCond .eq 20, 3) := by decide +kernel
theorem dX7_arm_8 : decode cX7_arm 8 = .ok (.aload_n 0, 1) := by decide +kernel
theorem dX7_arm_9 : decode cX7_arm 9 = .ok (.iload_n 2, 1) := by decide +kernel
theorem dX7_arm_10 : decode cX7_arm 10 = .ok (.invokevirtual 205, 3) := by decide +kernel
theorem dX7_arm_13 : decode cX7_arm 13 = .ok (.ifCond .eq 12, 3) := by decide +kernel
theorem dX7_arm_16 : decode cX7_arm 16 = .ok (.iload_n 3, 1) := by decide +kernel
theorem dX7_arm_17 : decode cX7_arm 17 = .ok (.iconst 0, 1) := by decide +kernel
theorem dX7_arm_18 : decode cX7_arm 18 = .ok (.iconst 2, 1) := by decide +kernel
theorem dX7_arm_19 : decode cX7_arm 19 = .ok (.invokestatic 83, 3) := by decide +kernel
theorem dX7_arm_22 : decode cX7_arm 22 = .ok (.ifCond .ne 5, 3) := by decide +kernel
theorem dX7_arm_25 : decode cX7_arm 25 = .ok (.iconst (-1), 1) := by decide +kernel
theorem dX7_arm_26 : decode cX7_arm 26 = .ok (.ireturn, 1) := by decide +kernel
theorem dX7_arm_27 : decode cX7_arm 27 = .ok (.aload_n 0, 1) := by decide +kernel
theorem dX7_arm_28 : decode cX7_arm 28 = .ok (.getfield 41, 3) := by decide +kernel
theorem dX7_arm_31 : decode cX7_arm 31 = .ok (.bipush 71, 2) := by decide +kernel
theorem dX7_arm_33 : decode cX7_arm 33 = .ok (.iload_n 1, 1) := by decide +kernel
theorem dX7_arm_34 : decode cX7_arm 34 = .ok (.iadd, 1) := by decide +kernel
theorem dX7_arm_35 : decode cX7_arm 35 = .ok (.iaload, 1) := by decide +kernel
theorem dX7_arm_36 : decode cX7_arm 36 = .ok (.bipush (-4), 2) := by decide +kernel
theorem dX7_arm_38 : decode cX7_arm 38 = .ok (.if_icmp .ne 6, 3) := by decide +kernel
theorem dX7_arm_41 : decode cX7_arm 41 = .ok (.bipush (-4), 2) := by decide +kernel
theorem dX7_arm_43 : decode cX7_arm 43 = .ok (.ireturn, 1) := by decide +kernel
theorem dX7_arm_44 : decode cX7_arm 44 = .ok (.iload_n 3, 1) := by decide +kernel
theorem dX7_arm_45 : decode cX7_arm 45 = .ok (.ifCond .ne 20, 3) := by decide +kernel
theorem dX7_arm_48 : decode cX7_arm 48 = .ok (.aload_n 0, 1) := by decide +kernel
theorem dX7_arm_49 : decode cX7_arm 49 = .ok (.getfield 41, 3) := by decide +kernel
theorem dX7_arm_52 : decode cX7_arm 52 = .ok (.bipush 83, 2) := by decide +kernel
theorem dX7_arm_54 : decode cX7_arm 54 = .ok (.bipush 8, 2) := by decide +kernel
theorem dX7_arm_56 : decode cX7_arm 56 = .ok (.iload_n 1, 1) := by decide +kernel
theorem dX7_arm_57 : decode cX7_arm 57 = .ok (.imul, 1) := by decide +kernel
theorem dX7_arm_58 : decode cX7_arm 58 = .ok (.iadd, 1) := by decide +kernel
theorem dX7_arm_59 : decode cX7_arm 59 = .ok (.iload_n 2, 1) := by decide +kernel
theorem dX7_arm_60 : decode cX7_arm 60 = .ok (.iadd, 1) := by decide +kernel
theorem dX7_arm_61 : decode cX7_arm 61 = .ok (.iaload, 1) := by decide +kernel
theorem dX7_arm_62 : decode cX7_arm 62 = .ok (.goto 42, 3) := by decide +kernel
theorem dX7_arm_65 : decode cX7_arm 65 = .ok (.iload_n 3, 1) := by decide +kernel
theorem dX7_arm_66 : decode cX7_arm 66 = .ok (.iconst 1, 1) := by decide +kernel
theorem dX7_arm_67 : decode cX7_arm 67 = .ok (.if_icmp .ne 21, 3) := by decide +kernel
theorem dX7_arm_70 : decode cX7_arm 70 = .ok (.aload_n 0, 1) := by decide +kernel
theorem dX7_arm_71 : decode cX7_arm 71 = .ok (.getfield 41, 3) := by decide +kernel
theorem dX7_arm_74 : decode cX7_arm 74 = .ok (.sipush 131, 3) := by decide +kernel
theorem dX7_arm_77 : decode cX7_arm 77 = .ok (.bipush 8, 2) := by decide +kernel
theorem dX7_arm_79 : decode cX7_arm 79 = .ok (.iload_n 1, 1) := by decide +kernel
theorem dX7_arm_80 : decode cX7_arm 80 = .ok (.imul, 1) := by decide +kernel
theorem dX7_arm_81 : decode cX7_arm 81 = .ok (.iadd, 1) := by decide +kernel
theorem dX7_arm_82 : decode cX7_arm 82 = .ok (.iload_n 2, 1) := by decide +kernel
theorem dX7_arm_83 : decode cX7_arm 83 = .ok (.iadd, 1) := by decide +kernel
theorem dX7_arm_84 : decode cX7_arm 84 = .ok (.iaload, 1) := by decide +kernel
theorem dX7_arm_85 : decode cX7_arm 85 = .ok (.goto 19, 3) := by decide +kernel
theorem dX7_arm_88 : decode cX7_arm 88 = .ok (.aload_n 0, 1) := by decide +kernel
theorem dX7_arm_89 : decode cX7_arm 89 = .ok (.aload_n 0, 1) := by decide +kernel
theorem dX7_arm_90 : decode cX7_arm 90 = .ok (.getfield 41, 3) := by decide +kernel
theorem dX7_arm_93 : decode cX7_arm 93 = .ok (.iload_n 1, 1) := by decide +kernel
theorem dX7_arm_94 : decode cX7_arm 94 = .ok (.aload_n 0, 1) := by decide +kernel
theorem dX7_arm_95 : decode cX7_arm 95 = .ok (.getfield 23, 3) := by decide +kernel
theorem dX7_arm_98 : decode cX7_arm 98 = .ok (.iload_n 1, 1) := by decide +kernel
theorem dX7_arm_99 : decode cX7_arm 99 = .ok (.iaload, 1) := by decide +kernel
theorem dX7_arm_100 : decode cX7_arm 100 = .ok (.iload_n 2, 1) := by decide +kernel
theorem dX7_arm_101 : decode cX7_arm 101 = .ok (.invokevirtual 188, 3) := by decide +kernel
theorem dX7_arm_104 : decode cX7_arm 104 = .ok (.ireturn, 1) := by decide +kernel
theorem dX7_walker_0 : decode cX7_walker 0 = .ok (.aload_n 0, 1) := by decide +kernel
theorem dX7_walker_1 : decode cX7_walker 1 = .ok (.iload_n 1, 1) := by decide +kernel
theorem dX7_walker_2 : decode cX7_walker 2 = .ok (.invokevirtual 212, 3) := by decide +kernel
theorem dX7_walker_5 : decode cX7_walker 5 = .ok (.ifCond .ne 5, 3) := by decide +kernel
theorem dX7_walker_8 : decode cX7_walker 8 = .ok (.iconst (-1), 1) := by decide +kernel
theorem dX7_walker_9 : decode cX7_walker 9 = .ok (.ireturn, 1) := by decide +kernel
theorem dX7_walker_10 : decode cX7_walker 10 = .ok (.iload_n 2, 1) := by decide +kernel
theorem dX7_walker_11 : decode cX7_walker 11 = .ok (.tableswitch 64 0 2 #[25, 34, 41], 25) := by decide +kernel
theorem dX7_walker_36 : decode cX7_walker 36 = .ok (.aload_n 0, 1) := by decide +kernel
theorem dX7_walker_37 : decode cX7_walker 37 = .ok (.getfield 41, 3) := by decide +kernel
theorem dX7_walker_40 : decode cX7_walker 40 = .ok (.iconst 0, 1) := by decide +kernel
theorem dX7_walker_41 : decode cX7_walker 41 = .ok (.iload_n 1, 1) := by decide +kernel
theorem dX7_walker_42 : decode cX7_walker 42 = .ok (.iadd, 1) := by decide +kernel
theorem dX7_walker_43 : decode cX7_walker 43 = .ok (.iaload, 1) := by decide +kernel
theorem dX7_walker_44 : decode cX7_walker 44 = .ok (.ireturn, 1) := by decide +kernel
theorem dX7_walker_45 : decode cX7_walker 45 = .ok (.aload_n 0, 1) := by decide +kernel
theorem dX7_walker_46 : decode cX7_walker 46 = .ok (.getfield 26, 3) := by decide +kernel
theorem dX7_walker_49 : decode cX7_walker 49 = .ok (.iload_n 1, 1) := by decide +kernel
theorem dX7_walker_50 : decode cX7_walker 50 = .ok (.iaload, 1) := by decide +kernel
theorem dX7_walker_51 : decode cX7_walker 51 = .ok (.ireturn, 1) := by decide +kernel
theorem dX7_walker_52 : decode cX7_walker 52 = .ok (.aload_n 0, 1) := by decide +kernel
theorem dX7_walker_53 : decode cX7_walker 53 = .ok (.getfield 41, 3) := by decide +kernel
theorem dX7_walker_56 : decode cX7_walker 56 = .ok (.iconst 0, 1) := by decide +kernel
theorem dX7_walker_57 : decode cX7_walker 57 = .ok (.iload_n 1, 1) := by decide +kernel
theorem dX7_walker_58 : decode cX7_walker 58 = .ok (.iadd, 1) := by decide +kernel
theorem dX7_walker_59 : decode cX7_walker 59 = .ok (.iaload, 1) := by decide +kernel
theorem dX7_walker_60 : decode cX7_walker 60 = .ok (.aload_n 0, 1) := by decide +kernel
theorem dX7_walker_61 : decode cX7_walker 61 = .ok (.getfield 26, 3) := by decide +kernel
theorem dX7_walker_64 : decode cX7_walker 64 = .ok (.iload_n 1, 1) := by decide +kernel
theorem dX7_walker_65 : decode cX7_walker 65 = .ok (.iaload, 1) := by decide +kernel
theorem dX7_walker_66 : decode cX7_walker 66 = .ok (.if_icmp .ne 7, 3) := by decide +kernel
theorem dX7_walker_69 : decode cX7_walker 69 = .ok (.iconst 1, 1) := by decide +kernel
theorem dX7_walker_70 : decode cX7_walker 70 = .ok (.goto 4, 3) := by decide +kernel
theorem dX7_walker_73 : decode cX7_walker 73 = .ok (.iconst 0, 1) := by decide +kernel
theorem dX7_walker_74 : decode cX7_walker 74 = .ok (.ireturn, 1) := by decide +kernel
theorem dX7_walker_75 : decode cX7_walker 75 = .ok (.iconst (-1), 1) := by decide +kernel
theorem dX7_walker_76 : decode cX7_walker 76 = .ok (.ireturn, 1) := by decide +kernel
theorem dX7_know_0 : decode cX7_know 0 = .ok (.aload_n 0, 1) := by decide +kernel
theorem dX7_know_1 : decode cX7_know 1 = .ok (.getfield 154, 3) := by decide +kernel
theorem dX7_know_4 : decode cX7_know 4 = .ok (.bipush 8, 2) := by decide +kernel
theorem dX7_know_6 : decode cX7_know 6 = .ok (.if_icmp .ne 44, 3) := by decide +kernel
theorem dX7_know_9 : decode cX7_know 9 = .ok (.iconst 0, 1) := by decide +kernel
theorem dX7_know_10 : decode cX7_know 10 = .ok (.istore_n 1, 1) := by decide +kernel
theorem dX7_know_11 : decode cX7_know 11 = .ok (.iload_n 1, 1) := by decide +kernel
theorem dX7_know_12 : decode cX7_know 12 = .ok (.sipush 1253, 3) := by decide +kernel
theorem dX7_know_15 : decode cX7_know 15 = .ok (.if_icmp .ge 25, 3) := by decide +kernel
theorem dX7_know_18 : decode cX7_know 18 = .ok (.aload_n 0, 1) := by decide +kernel
theorem dX7_know_19 : decode cX7_know 19 = .ok (.getfield 44, 3) := by decide +kernel
theorem dX7_know_22 : decode cX7_know 22 = .ok (.iload_n 1, 1) := by decide +kernel
theorem dX7_know_23 : decode cX7_know 23 = .ok (.aload_n 0, 1) := by decide +kernel
theorem dX7_know_24 : decode cX7_know 24 = .ok (.getfield 44, 3) := by decide +kernel
theorem dX7_know_27 : decode cX7_know 27 = .ok (.sipush 179, 3) := by decide +kernel
theorem dX7_know_30 : decode cX7_know 30 = .ok (.iload_n 1, 1) := by decide +kernel
theorem dX7_know_31 : decode cX7_know 31 = .ok (.iadd, 1) := by decide +kernel
theorem dX7_know_32 : decode cX7_know 32 = .ok (.iaload, 1) := by decide +kernel
theorem dX7_know_33 : decode cX7_know 33 = .ok (.iastore, 1) := by decide +kernel
theorem dX7_know_34 : decode cX7_know 34 = .ok (.iinc 1 1, 3) := by decide +kernel
theorem dX7_know_37 : decode cX7_know 37 = .ok (.goto (-26), 3) := by decide +kernel
theorem dX7_know_40 : decode cX7_know 40 = .ok (.aload_n 0, 1) := by decide +kernel
theorem dX7_know_41 : decode cX7_know 41 = .ok (.dup, 1) := by decide +kernel
theorem dX7_know_42 : decode cX7_know 42 = .ok (.getfield 154, 3) := by decide +kernel
theorem dX7_know_45 : decode cX7_know 45 = .ok (.iconst 1, 1) := by decide +kernel
theorem dX7_know_46 : decode cX7_know 46 = .ok (.isub, 1) := by decide +kernel
theorem dX7_know_47 : decode cX7_know 47 = .ok (.putfield 154, 3) := by decide +kernel
theorem dX7_know_50 : decode cX7_know 50 = .ok (.iconst 0, 1) := by decide +kernel
theorem dX7_know_51 : decode cX7_know 51 = .ok (.istore_n 1, 1) := by decide +kernel
theorem dX7_know_52 : decode cX7_know 52 = .ok (.iload_n 1, 1) := by decide +kernel
theorem dX7_know_53 : decode cX7_know 53 = .ok (.sipush 179, 3) := by decide +kernel
theorem dX7_know_56 : decode cX7_know 56 = .ok (.if_icmp .ge 30, 3) := by decide +kernel
theorem dX7_know_59 : decode cX7_know 59 = .ok (.aload_n 0, 1) := by decide +kernel
theorem dX7_know_60 : decode cX7_know 60 = .ok (.getfield 44, 3) := by decide +kernel
theorem dX7_know_63 : decode cX7_know 63 = .ok (.sipush 179, 3) := by decide +kernel
theorem dX7_know_66 : decode cX7_know 66 = .ok (.aload_n 0, 1) := by decide +kernel
theorem dX7_know_67 : decode cX7_know 67 = .ok (.getfield 154, 3) := by decide +kernel
theorem dX7_know_70 : decode cX7_know 70 = .ok (.imul, 1) := by decide +kernel
theorem dX7_know_71 : decode cX7_know 71 = .ok (.iload_n 1, 1) := by decide +kernel
theorem dX7_know_72 : decode cX7_know 72 = .ok (.iadd, 1) := by decide +kernel
theorem dX7_know_73 : decode cX7_know 73 = .ok (.aload_n 0, 1) := by decide +kernel
theorem dX7_know_74 : decode cX7_know 74 = .ok (.getfield 41, 3) := by decide +kernel
theorem dX7_know_77 : decode cX7_know 77 = .ok (.iload_n 1, 1) := by decide +kernel
theorem dX7_know_78 : decode cX7_know 78 = .ok (.iaload, 1) := by decide +kernel
theorem dX7_know_79 : decode cX7_know 79 = .ok (.iastore, 1) := by decide +kernel
theorem dX7_know_80 : decode cX7_know 80 = .ok (.iinc 1 1, 3) := by decide +kernel
theorem dX7_know_83 : decode cX7_know 83 = .ok (.goto (-31), 3) := by decide +kernel
theorem dX7_know_86 : decode cX7_know 86 = .ok (.aload_n 0, 1) := by decide +kernel
theorem dX7_know_87 : decode cX7_know 87 = .ok (.dup, 1) := by decide +kernel
theorem dX7_know_88 : decode cX7_know 88 = .ok (.getfield 154, 3) := by decide +kernel
theorem dX7_know_91 : decode cX7_know 91 = .ok (.iconst 1, 1) := by decide +kernel
theorem dX7_know_92 : decode cX7_know 92 = .ok (.iadd, 1) := by decide +kernel
theorem dX7_know_93 : decode cX7_know 93 = .ok (.putfield 154, 3) := by decide +kernel
theorem dX7_know_96 : decode cX7_know 96 = .ok (.return_, 1) := by decide +kernel
theorem dX7_pass_0 : decode cX7_pass 0 = .ok (.iload_n 1, 1) := by decide +kernel
theorem dX7_pass_1 : decode cX7_pass 1 = .ok (.iconst 1, 1) := by decide +kernel
theorem dX7_pass_2 : decode cX7_pass 2 = .ok (.bipush 20, 2) := by decide +kernel
theorem dX7_pass_4 : decode cX7_pass 4 = .ok (.invokestatic 83, 3) := by decide +kernel
theorem dX7_pass_7 : decode cX7_pass 7 = .ok (.ifCond .ne 5, 3) := by decide +kernel
theorem dX7_pass_10 : decode cX7_pass 10 = .ok (.iconst (-1), 1) := by decide +kernel
theorem dX7_pass_11 : decode cX7_pass 11 = .ok (.ireturn, 1) := by decide +kernel
theorem dX7_pass_12 : decode cX7_pass 12 = .ok (.aload_n 0, 1) := by decide +kernel
theorem dX7_pass_13 : decode cX7_pass 13 = .ok (.getfield 41, 3) := by decide +kernel
theorem dX7_pass_16 : decode cX7_pass 16 = .ok (.iconst 5, 1) := by decide +kernel
theorem dX7_pass_17 : decode cX7_pass 17 = .ok (.iaload, 1) := by decide +kernel
theorem dX7_pass_18 : decode cX7_pass 18 = .ok (.iload_n 1, 1) := by decide +kernel
theorem dX7_pass_19 : decode cX7_pass 19 = .ok (.iadd, 1) := by decide +kernel
theorem dX7_pass_20 : decode cX7_pass 20 = .ok (.sipush 999, 3) := by decide +kernel
theorem dX7_pass_23 : decode cX7_pass 23 = .ok (.if_icmp .le 6, 3) := by decide +kernel
theorem dX7_pass_26 : decode cX7_pass 26 = .ok (.bipush (-2), 2) := by decide +kernel
theorem dX7_pass_28 : decode cX7_pass 28 = .ok (.ireturn, 1) := by decide +kernel
theorem dX7_pass_29 : decode cX7_pass 29 = .ok (.aload_n 0, 1) := by decide +kernel
theorem dX7_pass_30 : decode cX7_pass 30 = .ok (.invokevirtual 215, 3) := by decide +kernel
theorem dX7_pass_33 : decode cX7_pass 33 = .ok (.iconst 0, 1) := by decide +kernel
theorem dX7_pass_34 : decode cX7_pass 34 = .ok (.istore_n 2, 1) := by decide +kernel
theorem dX7_pass_35 : decode cX7_pass 35 = .ok (.iload_n 2, 1) := by decide +kernel
theorem dX7_pass_36 : decode cX7_pass 36 = .ok (.iload_n 1, 1) := by decide +kernel
theorem dX7_pass_37 : decode cX7_pass 37 = .ok (.if_icmp .ge 17, 3) := by decide +kernel
theorem dX7_pass_40 : decode cX7_pass 40 = .ok (.aload_n 0, 1) := by decide +kernel
theorem dX7_pass_41 : decode cX7_pass 41 = .ok (.aload_n 0, 1) := by decide +kernel
theorem dX7_pass_42 : decode cX7_pass 42 = .ok (.getfield 41, 3) := by decide +kernel
theorem dX7_pass_45 : decode cX7_pass 45 = .ok (.invokevirtual 198, 3) := by decide +kernel
theorem dX7_pass_48 : decode cX7_pass 48 = .ok (.iinc 2 1, 3) := by decide +kernel
theorem dX7_pass_51 : decode cX7_pass 51 = .ok (.goto (-16), 3) := by decide +kernel
theorem dX7_pass_54 : decode cX7_pass 54 = .ok (.aload_n 0, 1) := by decide +kernel
theorem dX7_pass_55 : decode cX7_pass 55 = .ok (.getfield 41, 3) := by decide +kernel
theorem dX7_pass_58 : decode cX7_pass 58 = .ok (.iconst 5, 1) := by decide +kernel
theorem dX7_pass_59 : decode cX7_pass 59 = .ok (.iaload, 1) := by decide +kernel
theorem dX7_pass_60 : decode cX7_pass 60 = .ok (.ireturn, 1) := by decide +kernel
theorem dX7_year_0 : decode cX7_year 0 = .ok (.aload_n 0, 1) := by decide +kernel
theorem dX7_year_1 : decode cX7_year 1 = .ok (.invokevirtual 215, 3) := by decide +kernel
theorem dX7_year_4 : decode cX7_year 4 = .ok (.aload_n 0, 1) := by decide +kernel
theorem dX7_year_5 : decode cX7_year 5 = .ok (.aload_n 0, 1) := by decide +kernel
theorem dX7_year_6 : decode cX7_year 6 = .ok (.getfield 41, 3) := by decide +kernel
theorem dX7_year_9 : decode cX7_year 9 = .ok (.invokevirtual 218, 3) := by decide +kernel
theorem dX7_year_12 : decode cX7_year 12 = .ok (.ireturn, 1) := by decide +kernel
theorem dX7_layOn_0 : decode cX7_layOn 0 = .ok (.aload_n 0, 1) := by decide +kernel
theorem dX7_layOn_1 : decode cX7_layOn 1 = .ok (.bipush 7, 2) := by decide +kernel
theorem dX7_layOn_3 : decode cX7_layOn 3 = .ok (.bipush 8, 2) := by decide +kernel
theorem dX7_layOn_5 : decode cX7_layOn 5 = .ok (.iload_n 1, 1) := by decide +kernel
theorem dX7_layOn_6 : decode cX7_layOn 6 = .ok (.imul, 1) := by decide +kernel
theorem dX7_layOn_7 : decode cX7_layOn 7 = .ok (.iadd, 1) := by decide +kernel
theorem dX7_layOn_8 : decode cX7_layOn 8 = .ok (.iload_n 2, 1) := by decide +kernel
theorem dX7_layOn_9 : decode cX7_layOn 9 = .ok (.iadd, 1) := by decide +kernel
theorem dX7_layOn_10 : decode cX7_layOn 10 = .ok (.iload_n 3, 1) := by decide +kernel
theorem dX7_layOn_11 : decode cX7_layOn 11 = .ok (.iastore, 1) := by decide +kernel
theorem dX7_layOn_12 : decode cX7_layOn 12 = .ok (.aload_n 0, 1) := by decide +kernel
theorem dX7_layOn_13 : decode cX7_layOn 13 = .ok (.bipush 7, 2) := by decide +kernel
theorem dX7_layOn_15 : decode cX7_layOn 15 = .ok (.bipush 8, 2) := by decide +kernel
theorem dX7_layOn_17 : decode cX7_layOn 17 = .ok (.iload_n 2, 1) := by decide +kernel
theorem dX7_layOn_18 : decode cX7_layOn 18 = .ok (.imul, 1) := by decide +kernel
theorem dX7_layOn_19 : decode cX7_layOn 19 = .ok (.iadd, 1) := by decide +kernel
theorem dX7_layOn_20 : decode cX7_layOn 20 = .ok (.iload_n 1, 1) := by decide +kernel
theorem dX7_layOn_21 : decode cX7_layOn 21 = .ok (.iadd, 1) := by decide +kernel
theorem dX7_layOn_22 : decode cX7_layOn 22 = .ok (.iload_n 3, 1) := by decide +kernel
theorem dX7_layOn_23 : decode cX7_layOn 23 = .ok (.iastore, 1) := by decide +kernel
theorem dX7_layOn_24 : decode cX7_layOn 24 = .ok (.return_, 1) := by decide +kernel
theorem dX7_lays_0 : decode cX7_lays 0 = .ok (.aload_n 0, 1) := by decide +kernel
theorem dX7_lays_1 : decode cX7_lays 1 = .ok (.iload_n 1, 1) := by decide +kernel
theorem dX7_lays_2 : decode cX7_lays 2 = .ok (.invokevirtual 205, 3) := by decide +kernel
theorem dX7_lays_5 : decode cX7_lays 5 = .ok (.ifCond .eq 26, 3) := by decide +kernel
theorem dX7_lays_8 : decode cX7_lays 8 = .ok (.aload_n 0, 1) := by decide +kernel
theorem dX7_lays_9 : decode cX7_lays 9 = .ok (.iload_n 2, 1) := by decide +kernel
theorem dX7_lays_10 : decode cX7_lays 10 = .ok (.invokevirtual 205, 3) := by decide +kernel
theorem dX7_lays_13 : decode cX7_lays 13 = .ok (.ifCond .eq 18, 3) := by decide +kernel
theorem dX7_lays_16 : decode cX7_lays 16 = .ok (.iload_n 1, 1) := by decide +kernel
theorem dX7_lays_17 : decode cX7_lays 17 = .ok (.iload_n 2, 1) := by decide +kernel
theorem dX7_lays_18 : decode cX7_lays 18 = .ok (.if_icmp .eq 13, 3) := by decide +kernel
theorem dX7_lays_21 : decode cX7_lays 21 = .ok (.iload_n 3, 1) := by decide +kernel
theorem dX7_lays_22 : decode cX7_lays 22 = .ok (.iconst 0, 1) := by decide +kernel
theorem dX7_lays_23 : decode cX7_lays 23 = .ok (.bipush 9, 2) := by decide +kernel
theorem dX7_lays_25 : decode cX7_lays 25 = .ok (.invokestatic 83, 3) := by decide +kernel
theorem dX7_lays_28 : decode cX7_lays 28 = .ok (.ifCond .ne 5, 3) := by decide +kernel
theorem dX7_lays_31 : decode cX7_lays 31 = .ok (.iconst (-1), 1) := by decide +kernel
theorem dX7_lays_32 : decode cX7_lays 32 = .ok (.ireturn, 1) := by decide +kernel
theorem dX7_lays_33 : decode cX7_lays 33 = .ok (.aload_n 0, 1) := by decide +kernel
theorem dX7_lays_34 : decode cX7_lays 34 = .ok (.invokevirtual 215, 3) := by decide +kernel
theorem dX7_lays_37 : decode cX7_lays 37 = .ok (.aload_n 0, 1) := by decide +kernel
theorem dX7_lays_38 : decode cX7_lays 38 = .ok (.getfield 41, 3) := by decide +kernel
theorem dX7_lays_41 : decode cX7_lays 41 = .ok (.bipush 7, 2) := by decide +kernel
theorem dX7_lays_43 : decode cX7_lays 43 = .ok (.bipush 8, 2) := by decide +kernel
theorem dX7_lays_45 : decode cX7_lays 45 = .ok (.iload_n 1, 1) := by decide +kernel
theorem dX7_lays_46 : decode cX7_lays 46 = .ok (.imul, 1) := by decide +kernel
theorem dX7_lays_47 : decode cX7_lays 47 = .ok (.iadd, 1) := by decide +kernel
theorem dX7_lays_48 : decode cX7_lays 48 = .ok (.iload_n 2, 1) := by decide +kernel
theorem dX7_lays_49 : decode cX7_lays 49 = .ok (.iadd, 1) := by decide +kernel
theorem dX7_lays_50 : decode cX7_lays 50 = .ok (.iaload, 1) := by decide +kernel
theorem dX7_lays_51 : decode cX7_lays 51 = .ok (.istore 4, 2) := by decide +kernel
theorem dX7_lays_53 : decode cX7_lays 53 = .ok (.aload_n 0, 1) := by decide +kernel
theorem dX7_lays_54 : decode cX7_lays 54 = .ok (.getfield 41, 3) := by decide +kernel
theorem dX7_lays_57 : decode cX7_lays 57 = .ok (.iload_n 1, 1) := by decide +kernel
theorem dX7_lays_58 : decode cX7_lays 58 = .ok (.iload_n 2, 1) := by decide +kernel
theorem dX7_lays_59 : decode cX7_lays 59 = .ok (.iload_n 3, 1) := by decide +kernel
theorem dX7_lays_60 : decode cX7_lays 60 = .ok (.invokestatic 221, 3) := by decide +kernel
theorem dX7_lays_63 : decode cX7_lays 63 = .ok (.iload 4, 2) := by decide +kernel
theorem dX7_lays_65 : decode cX7_lays 65 = .ok (.ireturn, 1) := by decide +kernel
theorem dX7_paint_0 : decode cX7_paint 0 = .ok (.aload_n 0, 1) := by decide +kernel
theorem dX7_paint_1 : decode cX7_paint 1 = .ok (.iload_n 1, 1) := by decide +kernel
theorem dX7_paint_2 : decode cX7_paint 2 = .ok (.invokevirtual 209, 3) := by decide +kernel
theorem dX7_paint_5 : decode cX7_paint 5 = .ok (.ifCond .ne 5, 3) := by decide +kernel
theorem dX7_paint_8 : decode cX7_paint 8 = .ok (.iconst (-1), 1) := by decide +kernel
theorem dX7_paint_9 : decode cX7_paint 9 = .ok (.ireturn, 1) := by decide +kernel
theorem dX7_paint_10 : decode cX7_paint 10 = .ok (.aload_n 0, 1) := by decide +kernel
theorem dX7_paint_11 : decode cX7_paint 11 = .ok (.getfield 41, 3) := by decide +kernel
theorem dX7_paint_14 : decode cX7_paint 14 = .ok (.bipush 71, 2) := by decide +kernel
theorem dX7_paint_16 : decode cX7_paint 16 = .ok (.iload_n 1, 1) := by decide +kernel
theorem dX7_paint_17 : decode cX7_paint 17 = .ok (.iadd, 1) := by decide +kernel
theorem dX7_paint_18 : decode cX7_paint 18 = .ok (.iaload, 1) := by decide +kernel
theorem dX7_paint_19 : decode cX7_paint 19 = .ok (.bipush (-4), 2) := by decide +kernel
theorem dX7_paint_21 : decode cX7_paint 21 = .ok (.if_icmp .ne 6, 3) := by decide +kernel
theorem dX7_paint_24 : decode cX7_paint 24 = .ok (.bipush (-2), 2) := by decide +kernel
theorem dX7_paint_26 : decode cX7_paint 26 = .ok (.ireturn, 1) := by decide +kernel
theorem dX7_paint_27 : decode cX7_paint 27 = .ok (.aload_n 0, 1) := by decide +kernel
theorem dX7_paint_28 : decode cX7_paint 28 = .ok (.invokevirtual 215, 3) := by decide +kernel
theorem dX7_paint_31 : decode cX7_paint 31 = .ok (.aload_n 0, 1) := by decide +kernel
theorem dX7_paint_32 : decode cX7_paint 32 = .ok (.aload_n 0, 1) := by decide +kernel
theorem dX7_paint_33 : decode cX7_paint 33 = .ok (.getfield 41, 3) := by decide +kernel
theorem dX7_paint_36 : decode cX7_paint 36 = .ok (.invokevirtual 146, 3) := by decide +kernel
theorem dX7_paint_39 : decode cX7_paint 39 = .ok (.aload_n 0, 1) := by decide +kernel
theorem dX7_paint_40 : decode cX7_paint 40 = .ok (.aload_n 0, 1) := by decide +kernel
theorem dX7_paint_41 : decode cX7_paint 41 = .ok (.getfield 41, 3) := by decide +kernel
theorem dX7_paint_44 : decode cX7_paint 44 = .ok (.iload_n 1, 1) := by decide +kernel
theorem dX7_paint_45 : decode cX7_paint 45 = .ok (.invokevirtual 150, 3) := by decide +kernel
theorem dX7_paint_48 : decode cX7_paint 48 = .ok (.iconst 0, 1) := by decide +kernel
theorem dX7_paint_49 : decode cX7_paint 49 = .ok (.istore_n 2, 1) := by decide +kernel
theorem dX7_paint_50 : decode cX7_paint 50 = .ok (.iconst 0, 1) := by decide +kernel
theorem dX7_paint_51 : decode cX7_paint 51 = .ok (.istore_n 3, 1) := by decide +kernel
theorem dX7_paint_52 : decode cX7_paint 52 = .ok (.iload_n 3, 1) := by decide +kernel
theorem dX7_paint_53 : decode cX7_paint 53 = .ok (.bipush 8, 2) := by decide +kernel
theorem dX7_paint_55 : decode cX7_paint 55 = .ok (.if_icmp .ge 36, 3) := by decide +kernel
theorem dX7_paint_58 : decode cX7_paint 58 = .ok (.iload_n 2, 1) := by decide +kernel
theorem dX7_paint_59 : decode cX7_paint 59 = .ok (.aload_n 0, 1) := by decide +kernel
theorem dX7_paint_60 : decode cX7_paint 60 = .ok (.getfield 41, 3) := by decide +kernel
theorem dX7_paint_63 : decode cX7_paint 63 = .ok (.bipush 83, 2) := by decide +kernel
theorem dX7_paint_65 : decode cX7_paint 65 = .ok (.bipush 8, 2) := by decide +kernel
theorem dX7_paint_67 : decode cX7_paint 67 = .ok (.iload_n 1, 1) := by decide +kernel
theorem dX7_paint_68 : decode cX7_paint 68 = .ok (.imul, 1) := by decide +kernel
theorem dX7_paint_69 : decode cX7_paint 69 = .ok (.iadd, 1) := by decide +kernel
theorem dX7_paint_70 : decode cX7_paint 70 = .ok (.iload_n 3, 1) := by decide +kernel
theorem dX7_paint_71 : decode cX7_paint 71 = .ok (.iadd, 1) := by decide +kernel
theorem dX7_paint_72 : decode cX7_paint 72 = .ok (.iaload, 1) := by decide +kernel
theorem dX7_paint_73 : decode cX7_paint 73 = .ok (.bipush (-4), 2) := by decide +kernel
theorem dX7_paint_75 : decode cX7_paint 75 = .ok (.if_icmp .ne 7, 3) := by decide +kernel
theorem dX7_paint_78 : decode cX7_paint 78 = .ok (.iconst 0, 1) := by decide +kernel
theorem dX7_paint_79 : decode cX7_paint 79 = .ok (.goto 4, 3) := by decide +kernel
theorem dX7_paint_82 : decode cX7_paint 82 = .ok (.iconst 1, 1) := by decide +kernel
theorem dX7_paint_83 : decode cX7_paint 83 = .ok (.iadd, 1) := by decide +kernel
theorem dX7_paint_84 : decode cX7_paint 84 = .ok (.istore_n 2, 1) := by decide +kernel
theorem dX7_paint_85 : decode cX7_paint 85 = .ok (.iinc 3 1, 3) := by decide +kernel
theorem dX7_paint_88 : decode cX7_paint 88 = .ok (.goto (-36), 3) := by decide +kernel
theorem dX7_paint_91 : decode cX7_paint 91 = .ok (.iload_n 2, 1) := by decide +kernel
theorem dX7_paint_92 : decode cX7_paint 92 = .ok (.ireturn, 1) := by decide +kernel
theorem dX7_move_0 : decode cX7_move 0 = .ok (.aload_n 0, 1) := by decide +kernel
theorem dX7_move_1 : decode cX7_move 1 = .ok (.iload_n 1, 1) := by decide +kernel
theorem dX7_move_2 : decode cX7_move 2 = .ok (.invokevirtual 209, 3) := by decide +kernel
theorem dX7_move_5 : decode cX7_move 5 = .ok (.ifCond .eq 11, 3) := by decide +kernel
theorem dX7_move_8 : decode cX7_move 8 = .ok (.aload_n 0, 1) := by decide +kernel
theorem dX7_move_9 : decode cX7_move 9 = .ok (.iload_n 2, 1) := by decide +kernel
theorem dX7_move_10 : decode cX7_move 10 = .ok (.invokevirtual 205, 3) := by decide +kernel
theorem dX7_move_13 : decode cX7_move 13 = .ok (.ifCond .ne 5, 3) := by decide +kernel
theorem dX7_move_16 : decode cX7_move 16 = .ok (.iconst (-1), 1) := by decide +kernel
theorem dX7_move_17 : decode cX7_move 17 = .ok (.ireturn, 1) := by decide +kernel
theorem dX7_move_18 : decode cX7_move 18 = .ok (.aload_n 0, 1) := by decide +kernel
theorem dX7_move_19 : decode cX7_move 19 = .ok (.getfield 41, 3) := by decide +kernel
theorem dX7_move_22 : decode cX7_move 22 = .ok (.bipush 71, 2) := by decide +kernel
theorem dX7_move_24 : decode cX7_move 24 = .ok (.iload_n 1, 1) := by decide +kernel
theorem dX7_move_25 : decode cX7_move 25 = .ok (.iadd, 1) := by decide +kernel
theorem dX7_move_26 : decode cX7_move 26 = .ok (.iaload, 1) := by decide +kernel
theorem dX7_move_27 : decode cX7_move 27 = .ok (.istore_n 3, 1) := by decide +kernel
theorem dX7_move_28 : decode cX7_move 28 = .ok (.iload_n 3, 1) := by decide +kernel
theorem dX7_move_29 : decode cX7_move 29 = .ok (.bipush (-4), 2) := by decide +kernel
theorem dX7_move_31 : decode cX7_move 31 = .ok (.if_icmp .eq 8, 3) := by decide +kernel
theorem dX7_move_34 : decode cX7_move 34 = .ok (.iload_n 3, 1) := by decide +kernel
theorem dX7_move_35 : decode cX7_move 35 = .ok (.iload_n 2, 1) := by decide +kernel
theorem dX7_move_36 : decode cX7_move 36 = .ok (.if_icmp .ne 6, 3) := by decide +kernel
theorem dX7_move_39 : decode cX7_move 39 = .ok (.bipush (-2), 2) := by decide +kernel
theorem dX7_move_41 : decode cX7_move 41 = .ok (.ireturn, 1) := by decide +kernel
theorem dX7_move_42 : decode cX7_move 42 = .ok (.aload_n 0, 1) := by decide +kernel
theorem dX7_move_43 : decode cX7_move 43 = .ok (.invokevirtual 215, 3) := by decide +kernel
theorem dX7_move_46 : decode cX7_move 46 = .ok (.aload_n 0, 1) := by decide +kernel
theorem dX7_move_47 : decode cX7_move 47 = .ok (.getfield 41, 3) := by decide +kernel
theorem dX7_move_50 : decode cX7_move 50 = .ok (.bipush 71, 2) := by decide +kernel
theorem dX7_move_52 : decode cX7_move 52 = .ok (.iload_n 1, 1) := by decide +kernel
theorem dX7_move_53 : decode cX7_move 53 = .ok (.iadd, 1) := by decide +kernel
theorem dX7_move_54 : decode cX7_move 54 = .ok (.iload_n 2, 1) := by decide +kernel
theorem dX7_move_55 : decode cX7_move 55 = .ok (.iastore, 1) := by decide +kernel
theorem dX7_move_56 : decode cX7_move 56 = .ok (.iload_n 3, 1) := by decide +kernel
theorem dX7_move_57 : decode cX7_move 57 = .ok (.ireturn, 1) := by decide +kernel
theorem dX7_retire_0 : decode cX7_retire 0 = .ok (.aload_n 0, 1) := by decide +kernel
theorem dX7_retire_1 : decode cX7_retire 1 = .ok (.iload_n 1, 1) := by decide +kernel
theorem dX7_retire_2 : decode cX7_retire 2 = .ok (.invokevirtual 209, 3) := by decide +kernel
theorem dX7_retire_5 : decode cX7_retire 5 = .ok (.ifCond .ne 5, 3) := by decide +kernel
theorem dX7_retire_8 : decode cX7_retire 8 = .ok (.iconst (-1), 1) := by decide +kernel
theorem dX7_retire_9 : decode cX7_retire 9 = .ok (.ireturn, 1) := by decide +kernel
theorem dX7_retire_10 : decode cX7_retire 10 = .ok (.aload_n 0, 1) := by decide +kernel
theorem dX7_retire_11 : decode cX7_retire 11 = .ok (.getfield 41, 3) := by decide +kernel
theorem dX7_retire_14 : decode cX7_retire 14 = .ok (.bipush 71, 2) := by decide +kernel
theorem dX7_retire_16 : decode cX7_retire 16 = .ok (.iload_n 1, 1) := by decide +kernel
theorem dX7_retire_17 : decode cX7_retire 17 = .ok (.iadd, 1) := by decide +kernel
theorem dX7_retire_18 : decode cX7_retire 18 = .ok (.iaload, 1) := by decide +kernel
theorem dX7_retire_19 : decode cX7_retire 19 = .ok (.istore_n 2, 1) := by decide +kernel
theorem dX7_retire_20 : decode cX7_retire 20 = .ok (.iload_n 2, 1) := by decide +kernel
theorem dX7_retire_21 : decode cX7_retire 21 = .ok (.bipush (-4), 2) := by decide +kernel
theorem dX7_retire_23 : decode cX7_retire 23 = .ok (.if_icmp .ne 6, 3) := by decide +kernel
theorem dX7_retire_26 : decode cX7_retire 26 = .ok (.bipush (-2), 2) := by decide +kernel
theorem dX7_retire_28 : decode cX7_retire 28 = .ok (.ireturn, 1) := by decide +kernel
theorem dX7_retire_29 : decode cX7_retire 29 = .ok (.aload_n 0, 1) := by decide +kernel
theorem dX7_retire_30 : decode cX7_retire 30 = .ok (.invokevirtual 215, 3) := by decide +kernel
theorem dX7_retire_33 : decode cX7_retire 33 = .ok (.aload_n 0, 1) := by decide +kernel
theorem dX7_retire_34 : decode cX7_retire 34 = .ok (.getfield 41, 3) := by decide +kernel
theorem dX7_retire_37 : decode cX7_retire 37 = .ok (.bipush 71, 2) := by decide +kernel
theorem dX7_retire_39 : decode cX7_retire 39 = .ok (.iload_n 1, 1) := by decide +kernel
theorem dX7_retire_40 : decode cX7_retire 40 = .ok (.iadd, 1) := by decide +kernel
theorem dX7_retire_41 : decode cX7_retire 41 = .ok (.bipush (-4), 2) := by decide +kernel
theorem dX7_retire_43 : decode cX7_retire 43 = .ok (.iastore, 1) := by decide +kernel
theorem dX7_retire_44 : decode cX7_retire 44 = .ok (.iload_n 2, 1) := by decide +kernel
theorem dX7_retire_45 : decode cX7_retire 45 = .ok (.ireturn, 1) := by decide +kernel
theorem dX7_undo_0 : decode cX7_undo 0 = .ok (.aload_n 0, 1) := by decide +kernel
theorem dX7_undo_1 : decode cX7_undo 1 = .ok (.getfield 154, 3) := by decide +kernel
theorem dX7_undo_4 : decode cX7_undo 4 = .ok (.ifCond .ne 6, 3) := by decide +kernel
theorem dX7_undo_7 : decode cX7_undo 7 = .ok (.bipush (-2), 2) := by decide +kernel
theorem dX7_undo_9 : decode cX7_undo 9 = .ok (.ireturn, 1) := by decide +kernel
theorem dX7_undo_10 : decode cX7_undo 10 = .ok (.aload_n 0, 1) := by decide +kernel
theorem dX7_undo_11 : decode cX7_undo 11 = .ok (.dup, 1) := by decide +kernel
theorem dX7_undo_12 : decode cX7_undo 12 = .ok (.getfield 154, 3) := by decide +kernel
theorem dX7_undo_15 : decode cX7_undo 15 = .ok (.iconst 1, 1) := by decide +kernel
theorem dX7_undo_16 : decode cX7_undo 16 = .ok (.isub, 1) := by decide +kernel
theorem dX7_undo_17 : decode cX7_undo 17 = .ok (.putfield 154, 3) := by decide +kernel
theorem dX7_undo_20 : decode cX7_undo 20 = .ok (.iconst 0, 1) := by decide +kernel
theorem dX7_undo_21 : decode cX7_undo 21 = .ok (.istore_n 1, 1) := by decide +kernel
theorem dX7_undo_22 : decode cX7_undo 22 = .ok (.iload_n 1, 1) := by decide +kernel
theorem dX7_undo_23 : decode cX7_undo 23 = .ok (.sipush 179, 3) := by decide +kernel
theorem dX7_undo_26 : decode cX7_undo 26 = .ok (.if_icmp .ge 30, 3) := by decide +kernel
theorem dX7_undo_29 : decode cX7_undo 29 = .ok (.aload_n 0, 1) := by decide +kernel
theorem dX7_undo_30 : decode cX7_undo 30 = .ok (.getfield 41, 3) := by decide +kernel
theorem dX7_undo_33 : decode cX7_undo 33 = .ok (.iload_n 1, 1) := by decide +kernel
theorem dX7_undo_34 : decode cX7_undo 34 = .ok (.aload_n 0, 1) := by decide +kernel
theorem dX7_undo_35 : decode cX7_undo 35 = .ok (.getfield 44, 3) := by decide +kernel
theorem dX7_undo_38 : decode cX7_undo 38 = .ok (.sipush 179, 3) := by decide +kernel
theorem dX7_undo_41 : decode cX7_undo 41 = .ok (.aload_n 0, 1) := by decide +kernel
theorem dX7_undo_42 : decode cX7_undo 42 = .ok (.getfield 154, 3) := by decide +kernel
theorem dX7_undo_45 : decode cX7_undo 45 = .ok (.imul, 1) := by decide +kernel
theorem dX7_undo_46 : decode cX7_undo 46 = .ok (.iload_n 1, 1) := by decide +kernel
theorem dX7_undo_47 : decode cX7_undo 47 = .ok (.iadd, 1) := by decide +kernel
theorem dX7_undo_48 : decode cX7_undo 48 = .ok (.iaload, 1) := by decide +kernel
theorem dX7_undo_49 : decode cX7_undo 49 = .ok (.iastore, 1) := by decide +kernel
theorem dX7_undo_50 : decode cX7_undo 50 = .ok (.iinc 1 1, 3) := by decide +kernel
theorem dX7_undo_53 : decode cX7_undo 53 = .ok (.goto (-31), 3) := by decide +kernel
theorem dX7_undo_56 : decode cX7_undo 56 = .ok (.aload_n 0, 1) := by decide +kernel
theorem dX7_undo_57 : decode cX7_undo 57 = .ok (.getfield 154, 3) := by decide +kernel
theorem dX7_undo_60 : decode cX7_undo 60 = .ok (.ireturn, 1) := by decide +kernel
theorem dX7_comes_0 : decode cX7_comes 0 = .ok (.aload_n 0, 1) := by decide +kernel
theorem dX7_comes_1 : decode cX7_comes 1 = .ok (.iload_n 1, 1) := by decide +kernel
theorem dX7_comes_2 : decode cX7_comes 2 = .ok (.invokevirtual 212, 3) := by decide +kernel
theorem dX7_comes_5 : decode cX7_comes 5 = .ok (.ifCond .ne 5, 3) := by decide +kernel
theorem dX7_comes_8 : decode cX7_comes 8 = .ok (.iconst (-1), 1) := by decide +kernel
theorem dX7_comes_9 : decode cX7_comes 9 = .ok (.ireturn, 1) := by decide +kernel
theorem dX7_comes_10 : decode cX7_comes 10 = .ok (.aload_n 0, 1) := by decide +kernel
theorem dX7_comes_11 : decode cX7_comes 11 = .ok (.invokevirtual 225, 3) := by decide +kernel
theorem dX7_comes_14 : decode cX7_comes 14 = .ok (.iconst 0, 1) := by decide +kernel
theorem dX7_comes_15 : decode cX7_comes 15 = .ok (.istore_n 2, 1) := by decide +kernel
theorem dX7_comes_16 : decode cX7_comes 16 = .ok (.iload_n 2, 1) := by decide +kernel
theorem dX7_comes_17 : decode cX7_comes 17 = .ok (.bipush 40, 2) := by decide +kernel
theorem dX7_comes_19 : decode cX7_comes 19 = .ok (.if_icmp .gt 36, 3) := by decide +kernel
theorem dX7_comes_22 : decode cX7_comes 22 = .ok (.aload_n 0, 1) := by decide +kernel
theorem dX7_comes_23 : decode cX7_comes 23 = .ok (.getfield 50, 3) := by decide +kernel
theorem dX7_comes_26 : decode cX7_comes 26 = .ok (.iconst 0, 1) := by decide +kernel
theorem dX7_comes_27 : decode cX7_comes 27 = .ok (.iload_n 1, 1) := by decide +kernel
theorem dX7_comes_28 : decode cX7_comes 28 = .ok (.iadd, 1) := by decide +kernel
theorem dX7_comes_29 : decode cX7_comes 29 = .ok (.iaload, 1) := by decide +kernel
theorem dX7_comes_30 : decode cX7_comes 30 = .ok (.aload_n 0, 1) := by decide +kernel
theorem dX7_comes_31 : decode cX7_comes 31 = .ok (.getfield 26, 3) := by decide +kernel
theorem dX7_comes_34 : decode cX7_comes 34 = .ok (.iload_n 1, 1) := by decide +kernel
theorem dX7_comes_35 : decode cX7_comes 35 = .ok (.iaload, 1) := by decide +kernel
theorem dX7_comes_36 : decode cX7_comes 36 = .ok (.if_icmp .ne 5, 3) := by decide +kernel
theorem dX7_comes_39 : decode cX7_comes 39 = .ok (.iload_n 2, 1) := by decide +kernel
theorem dX7_comes_40 : decode cX7_comes 40 = .ok (.ireturn, 1) := by decide +kernel
theorem dX7_comes_41 : decode cX7_comes 41 = .ok (.aload_n 0, 1) := by decide +kernel
theorem dX7_comes_42 : decode cX7_comes 42 = .ok (.aload_n 0, 1) := by decide +kernel
theorem dX7_comes_43 : decode cX7_comes 43 = .ok (.getfield 50, 3) := by decide +kernel
theorem dX7_comes_46 : decode cX7_comes 46 = .ok (.invokevirtual 198, 3) := by decide +kernel
theorem dX7_comes_49 : decode cX7_comes 49 = .ok (.iinc 2 1, 3) := by decide +kernel
theorem dX7_comes_52 : decode cX7_comes 52 = .ok (.goto (-36), 3) := by decide +kernel
theorem dX7_comes_55 : decode cX7_comes 55 = .ok (.bipush (-4), 2) := by decide +kernel
theorem dX7_comes_57 : decode cX7_comes 57 = .ok (.ireturn, 1) := by decide +kernel
theorem dX7_trail_0 : decode cX7_trail 0 = .ok (.aload_n 0, 1) := by decide +kernel
theorem dX7_trail_1 : decode cX7_trail 1 = .ok (.iload_n 1, 1) := by decide +kernel
theorem dX7_trail_2 : decode cX7_trail 2 = .ok (.invokevirtual 212, 3) := by decide +kernel
theorem dX7_trail_5 : decode cX7_trail 5 = .ok (.ifCond .eq 13, 3) := by decide +kernel
theorem dX7_trail_8 : decode cX7_trail 8 = .ok (.iload_n 2, 1) := by decide +kernel
theorem dX7_trail_9 : decode cX7_trail 9 = .ok (.iconst 0, 1) := by decide +kernel
theorem dX7_trail_10 : decode cX7_trail 10 = .ok (.bipush 40, 2) := by decide +kernel
theorem dX7_trail_12 : decode cX7_trail 12 = .ok (.invokestatic 83, 3) := by decide +kernel
theorem dX7_trail_15 : decode cX7_trail 15 = .ok (.ifCond .ne 5, 3) := by decide +kernel
theorem dX7_trail_18 : decode cX7_trail 18 = .ok (.iconst (-1), 1) := by decide +kernel
theorem dX7_trail_19 : decode cX7_trail 19 = .ok (.ireturn, 1) := by decide +kernel
theorem dX7_trail_20 : decode cX7_trail 20 = .ok (.aload_n 0, 1) := by decide +kernel
theorem dX7_trail_21 : decode cX7_trail 21 = .ok (.invokevirtual 225, 3) := by decide +kernel
theorem dX7_trail_24 : decode cX7_trail 24 = .ok (.iconst 0, 1) := by decide +kernel
theorem dX7_trail_25 : decode cX7_trail 25 = .ok (.istore_n 3, 1) := by decide +kernel
theorem dX7_trail_26 : decode cX7_trail 26 = .ok (.iload_n 3, 1) := by decide +kernel
theorem dX7_trail_27 : decode cX7_trail 27 = .ok (.iload_n 2, 1) := by decide +kernel
theorem dX7_trail_28 : decode cX7_trail 28 = .ok (.if_icmp .ge 17, 3) := by decide +kernel
theorem dX7_trail_31 : decode cX7_trail 31 = .ok (.aload_n 0, 1) := by decide +kernel
theorem dX7_trail_32 : decode cX7_trail 32 = .ok (.aload_n 0, 1) := by decide +kernel
theorem dX7_trail_33 : decode cX7_trail 33 = .ok (.getfield 50, 3) := by decide +kernel
theorem dX7_trail_36 : decode cX7_trail 36 = .ok (.invokevirtual 198, 3) := by decide +kernel
theorem dX7_trail_39 : decode cX7_trail 39 = .ok (.iinc 3 1, 3) := by decide +kernel
theorem dX7_trail_42 : decode cX7_trail 42 = .ok (.goto (-16), 3) := by decide +kernel
theorem dX7_trail_45 : decode cX7_trail 45 = .ok (.aload_n 0, 1) := by decide +kernel
theorem dX7_trail_46 : decode cX7_trail 46 = .ok (.getfield 50, 3) := by decide +kernel
theorem dX7_trail_49 : decode cX7_trail 49 = .ok (.iconst 0, 1) := by decide +kernel
theorem dX7_trail_50 : decode cX7_trail 50 = .ok (.iload_n 1, 1) := by decide +kernel
theorem dX7_trail_51 : decode cX7_trail 51 = .ok (.iadd, 1) := by decide +kernel
theorem dX7_trail_52 : decode cX7_trail 52 = .ok (.iaload, 1) := by decide +kernel
theorem dX7_trail_53 : decode cX7_trail 53 = .ok (.ireturn, 1) := by decide +kernel
theorem dX7_lost_0 : decode cX7_lost 0 = .ok (.aload_n 0, 1) := by decide +kernel
theorem dX7_lost_1 : decode cX7_lost 1 = .ok (.invokevirtual 225, 3) := by decide +kernel
theorem dX7_lost_4 : decode cX7_lost 4 = .ok (.aload_n 0, 1) := by decide +kernel
theorem dX7_lost_5 : decode cX7_lost 5 = .ok (.invokevirtual 228, 3) := by decide +kernel
theorem dX7_lost_8 : decode cX7_lost 8 = .ok (.pop, 1) := by decide +kernel
theorem dX7_lost_9 : decode cX7_lost 9 = .ok (.iconst 0, 1) := by decide +kernel
theorem dX7_lost_10 : decode cX7_lost 10 = .ok (.istore_n 1, 1) := by decide +kernel
theorem dX7_lost_11 : decode cX7_lost 11 = .ok (.iconst 0, 1) := by decide +kernel
theorem dX7_lost_12 : decode cX7_lost 12 = .ok (.istore_n 2, 1) := by decide +kernel
theorem dX7_lost_13 : decode cX7_lost 13 = .ok (.iload_n 2, 1) := by decide +kernel
theorem dX7_lost_14 : decode cX7_lost 14 = .ok (.aload_n 0, 1) := by decide +kernel
theorem dX7_lost_15 : decode cX7_lost 15 = .ok (.getfield 20, 3) := by decide +kernel
theorem dX7_lost_18 : decode cX7_lost 18 = .ok (.iconst 0, 1) := by decide +kernel
theorem dX7_lost_19 : decode cX7_lost 19 = .ok (.iaload, 1) := by decide +kernel
theorem dX7_lost_20 : decode cX7_lost 20 = .ok (.if_icmp .ge 36, 3) := by decide +kernel
theorem dX7_lost_23 : decode cX7_lost 23 = .ok (.iload_n 1, 1) := by decide +kernel
theorem dX7_lost_24 : decode cX7_lost 24 = .ok (.aload_n 0, 1) := by decide +kernel
theorem dX7_lost_25 : decode cX7_lost 25 = .ok (.getfield 50, 3) := by decide +kernel
theorem dX7_lost_28 : decode cX7_lost 28 = .ok (.iconst 0, 1) := by decide +kernel
theorem dX7_lost_29 : decode cX7_lost 29 = .ok (.iload_n 2, 1) := by decide +kernel
theorem dX7_lost_30 : decode cX7_lost 30 = .ok (.iadd, 1) := by decide +kernel
theorem dX7_lost_31 : decode cX7_lost 31 = .ok (.iaload, 1) := by decide +kernel
theorem dX7_lost_32 : decode cX7_lost 32 = .ok (.aload_n 0, 1) := by decide +kernel
theorem dX7_lost_33 : decode cX7_lost 33 = .ok (.getfield 26, 3) := by decide +kernel
theorem dX7_lost_36 : decode cX7_lost 36 = .ok (.iload_n 2, 1) := by decide +kernel
theorem dX7_lost_37 : decode cX7_lost 37 = .ok (.iaload, 1) := by decide +kernel
theorem dX7_lost_38 : decode cX7_lost 38 = .ok (.if_icmp .ne 7, 3) := by decide +kernel
theorem dX7_lost_41 : decode cX7_lost 41 = .ok (.iconst 0, 1) := by decide +kernel
theorem dX7_lost_42 : decode cX7_lost 42 = .ok (.goto 6, 3) := by decide +kernel
theorem dX7_lost_45 : decode cX7_lost 45 = .ok (.iconst 1, 1) := by decide +kernel
theorem dX7_lost_46 : decode cX7_lost 46 = .ok (.iload_n 2, 1) := by decide +kernel
theorem dX7_lost_47 : decode cX7_lost 47 = .ok (.ishl, 1) := by decide +kernel
theorem dX7_lost_48 : decode cX7_lost 48 = .ok (.ior, 1) := by decide +kernel
theorem dX7_lost_49 : decode cX7_lost 49 = .ok (.istore_n 1, 1) := by decide +kernel
theorem dX7_lost_50 : decode cX7_lost 50 = .ok (.iinc 2 1, 3) := by decide +kernel
theorem dX7_lost_53 : decode cX7_lost 53 = .ok (.goto (-40), 3) := by decide +kernel
theorem dX7_lost_56 : decode cX7_lost 56 = .ok (.iload_n 1, 1) := by decide +kernel
theorem dX7_lost_57 : decode cX7_lost 57 = .ok (.ireturn, 1) := by decide +kernel
theorem dX7_helps_0 : decode cX7_helps 0 = .ok (.iload_n 1, 1) := by decide +kernel
theorem dX7_helps_1 : decode cX7_helps 1 = .ok (.iconst 0, 1) := by decide +kernel
theorem dX7_helps_2 : decode cX7_helps 2 = .ok (.iconst 1, 1) := by decide +kernel
theorem dX7_helps_3 : decode cX7_helps 3 = .ok (.invokestatic 83, 3) := by decide +kernel
theorem dX7_helps_6 : decode cX7_helps 6 = .ok (.ifCond .ne 5, 3) := by decide +kernel
theorem dX7_helps_9 : decode cX7_helps 9 = .ok (.iconst (-1), 1) := by decide +kernel
theorem dX7_helps_10 : decode cX7_helps 10 = .ok (.ireturn, 1) := by decide +kernel
theorem dX7_helps_11 : decode cX7_helps 11 = .ok (.bipush (-4), 2) := by decide +kernel
theorem dX7_helps_13 : decode cX7_helps 13 = .ok (.istore_n 2, 1) := by decide +kernel
theorem dX7_helps_14 : decode cX7_helps 14 = .ok (.iconst 0, 1) := by decide +kernel
theorem dX7_helps_15 : decode cX7_helps 15 = .ok (.istore_n 3, 1) := by decide +kernel
theorem dX7_helps_16 : decode cX7_helps 16 = .ok (.iconst 0, 1) := by decide +kernel
theorem dX7_helps_17 : decode cX7_helps 17 = .ok (.istore 4, 2) := by decide +kernel
theorem dX7_helps_19 : decode cX7_helps 19 = .ok (.iload 4, 2) := by decide +kernel
theorem dX7_helps_21 : decode cX7_helps 21 = .ok (.aload_n 0, 1) := by decide +kernel
theorem dX7_helps_22 : decode cX7_helps 22 = .ok (.getfield 13, 3) := by decide +kernel
theorem dX7_helps_25 : decode cX7_helps 25 = .ok (.iconst 0, 1) := by decide +kernel
theorem dX7_helps_26 : decode cX7_helps 26 = .ok (.iaload, 1) := by decide +kernel
theorem dX7_helps_27 : decode cX7_helps 27 = .ok (.if_icmp .ge 65, 3) := by decide +kernel
theorem dX7_helps_30 : decode cX7_helps 30 = .ok (.aload_n 0, 1) := by decide +kernel
theorem dX7_helps_31 : decode cX7_helps 31 = .ok (.aload_n 0, 1) := by decide +kernel
theorem dX7_helps_32 : decode cX7_helps 32 = .ok (.getfield 41, 3) := by decide +kernel
theorem dX7_helps_35 : decode cX7_helps 35 = .ok (.iload 4, 2) := by decide +kernel
theorem dX7_helps_37 : decode cX7_helps 37 = .ok (.invokevirtual 184, 3) := by decide +kernel
theorem dX7_helps_40 : decode cX7_helps 40 = .ok (.bipush (-4), 2) := by decide +kernel
theorem dX7_helps_42 : decode cX7_helps 42 = .ok (.if_icmp .ne 44, 3) := by decide +kernel
theorem dX7_helps_45 : decode cX7_helps 45 = .ok (.aload_n 0, 1) := by decide +kernel
theorem dX7_helps_46 : decode cX7_helps 46 = .ok (.invokevirtual 225, 3) := by decide +kernel
theorem dX7_helps_49 : decode cX7_helps 49 = .ok (.aload_n 0, 1) := by decide +kernel
theorem dX7_helps_50 : decode cX7_helps 50 = .ok (.iconst 1, 1) := by decide +kernel
theorem dX7_helps_51 : decode cX7_helps 51 = .ok (.iload 4, 2) := by decide +kernel
theorem dX7_helps_53 : decode cX7_helps 53 = .ok (.ishl, 1) := by decide +kernel
theorem dX7_helps_54 : decode cX7_helps 54 = .ok (.putfield 192, 3) := by decide +kernel
theorem dX7_helps_57 : decode cX7_helps 57 = .ok (.aload_n 0, 1) := by decide +kernel
theorem dX7_helps_58 : decode cX7_helps 58 = .ok (.invokevirtual 228, 3) := by decide +kernel
theorem dX7_helps_61 : decode cX7_helps 61 = .ok (.istore 5, 2) := by decide +kernel
theorem dX7_helps_63 : decode cX7_helps 63 = .ok (.aload_n 0, 1) := by decide +kernel
theorem dX7_helps_64 : decode cX7_helps 64 = .ok (.iconst 0, 1) := by decide +kernel
theorem dX7_helps_65 : decode cX7_helps 65 = .ok (.putfield 192, 3) := by decide +kernel
theorem dX7_helps_68 : decode cX7_helps 68 = .ok (.iload_n 2, 1) := by decide +kernel
theorem dX7_helps_69 : decode cX7_helps 69 = .ok (.bipush (-4), 2) := by decide +kernel
theorem dX7_helps_71 : decode cX7_helps 71 = .ok (.if_icmp .eq 9, 3) := by decide +kernel
theorem dX7_helps_74 : decode cX7_helps 74 = .ok (.iload 5, 2) := by decide +kernel
theorem dX7_helps_76 : decode cX7_helps 76 = .ok (.iload_n 3, 1) := by decide +kernel
theorem dX7_helps_77 : decode cX7_helps 77 = .ok (.if_icmp .le 9, 3) := by decide +kernel
theorem dX7_helps_80 : decode cX7_helps 80 = .ok (.iload 4, 2) := by decide +kernel
theorem dX7_helps_82 : decode cX7_helps 82 = .ok (.istore_n 2, 1) := by decide +kernel
theorem dX7_helps_83 : decode cX7_helps 83 = .ok (.iload 5, 2) := by decide +kernel
theorem dX7_helps_85 : decode cX7_helps 85 = .ok (.istore_n 3, 1) := by decide +kernel
theorem dX7_helps_86 : decode cX7_helps 86 = .ok (.iinc 4 1, 3) := by decide +kernel
theorem dX7_helps_89 : decode cX7_helps 89 = .ok (.goto (-70), 3) := by decide +kernel
theorem dX7_helps_92 : decode cX7_helps 92 = .ok (.iload_n 2, 1) := by decide +kernel
theorem dX7_helps_93 : decode cX7_helps 93 = .ok (.bipush (-4), 2) := by decide +kernel
theorem dX7_helps_95 : decode cX7_helps 95 = .ok (.if_icmp .eq 7, 3) := by decide +kernel
theorem dX7_helps_98 : decode cX7_helps 98 = .ok (.iload_n 1, 1) := by decide +kernel
theorem dX7_helps_99 : decode cX7_helps 99 = .ok (.ifCond .ne 7, 3) := by decide +kernel
theorem dX7_helps_102 : decode cX7_helps 102 = .ok (.iload_n 2, 1) := by decide +kernel
theorem dX7_helps_103 : decode cX7_helps 103 = .ok (.goto 4, 3) := by decide +kernel
theorem dX7_helps_106 : decode cX7_helps 106 = .ok (.iload_n 3, 1) := by decide +kernel
theorem dX7_helps_107 : decode cX7_helps 107 = .ok (.ireturn, 1) := by decide +kernel
theorem dX7_paints_0 : decode cX7_paints 0 = .ok (.iload_n 1, 1) := by decide +kernel
theorem dX7_paints_1 : decode cX7_paints 1 = .ok (.iconst 0, 1) := by decide +kernel
theorem dX7_paints_2 : decode cX7_paints 2 = .ok (.iconst 1, 1) := by decide +kernel
theorem dX7_paints_3 : decode cX7_paints 3 = .ok (.invokestatic 83, 3) := by decide +kernel
theorem dX7_paints_6 : decode cX7_paints 6 = .ok (.ifCond .ne 5, 3) := by decide +kernel
theorem dX7_paints_9 : decode cX7_paints 9 = .ok (.iconst (-1), 1) := by decide +kernel
theorem dX7_paints_10 : decode cX7_paints 10 = .ok (.ireturn, 1) := by decide +kernel
theorem dX7_paints_11 : decode cX7_paints 11 = .ok (.iconst 0, 1) := by decide +kernel
theorem dX7_paints_12 : decode cX7_paints 12 = .ok (.istore_n 2, 1) := by decide +kernel
theorem dX7_paints_13 : decode cX7_paints 13 = .ok (.iconst (-1), 1) := by decide +kernel
theorem dX7_paints_14 : decode cX7_paints 14 = .ok (.istore_n 3, 1) := by decide +kernel
theorem dX7_paints_15 : decode cX7_paints 15 = .ok (.iconst 0, 1) := by decide +kernel
theorem dX7_paints_16 : decode cX7_paints 16 = .ok (.istore 4, 2) := by decide +kernel
theorem dX7_paints_18 : decode cX7_paints 18 = .ok (.iload 4, 2) := by decide +kernel
theorem dX7_paints_20 : decode cX7_paints 20 = .ok (.iconst 1, 1) := by decide +kernel
theorem dX7_paints_21 : decode cX7_paints 21 = .ok (.aload_n 0, 1) := by decide +kernel
theorem dX7_paints_22 : decode cX7_paints 22 = .ok (.getfield 17, 3) := by decide +kernel
theorem dX7_paints_25 : decode cX7_paints 25 = .ok (.iconst 0, 1) := by decide +kernel
theorem dX7_paints_26 : decode cX7_paints 26 = .ok (.iaload, 1) := by decide +kernel
theorem dX7_paints_27 : decode cX7_paints 27 = .ok (.ishl, 1) := by decide +kernel
theorem dX7_paints_28 : decode cX7_paints 28 = .ok (.if_icmp .ge 141, 3) := by decide +kernel
theorem dX7_paints_31 : decode cX7_paints 31 = .ok (.aload_n 0, 1) := by decide +kernel
theorem dX7_paints_32 : decode cX7_paints 32 = .ok (.invokevirtual 225, 3) := by decide +kernel
theorem dX7_paints_35 : decode cX7_paints 35 = .ok (.aload_n 0, 1) := by decide +kernel
theorem dX7_paints_36 : decode cX7_paints 36 = .ok (.aload_n 0, 1) := by decide +kernel
theorem dX7_paints_37 : decode cX7_paints 37 = .ok (.getfield 50, 3) := by decide +kernel
theorem dX7_paints_40 : decode cX7_paints 40 = .ok (.invokevirtual 146, 3) := by decide +kernel
theorem dX7_paints_43 : decode cX7_paints 43 = .ok (.iconst 1, 1) := by decide +kernel
theorem dX7_paints_44 : decode cX7_paints 44 = .ok (.istore 5, 2) := by decide +kernel
theorem dX7_paints_46 : decode cX7_paints 46 = .ok (.iconst 0, 1) := by decide +kernel
theorem dX7_paints_47 : decode cX7_paints 47 = .ok (.istore 6, 2) := by decide +kernel
theorem dX7_paints_49 : decode cX7_paints 49 = .ok (.iload 6, 2) := by decide +kernel
theorem dX7_paints_51 : decode cX7_paints 51 = .ok (.aload_n 0, 1) := by decide +kernel
theorem dX7_paints_52 : decode cX7_paints 52 = .ok (.getfield 17, 3) := by decide +kernel
theorem dX7_paints_55 : decode cX7_paints 55 = .ok (.iconst 0, 1) := by decide +kernel
theorem dX7_paints_56 : decode cX7_paints 56 = .ok (.iaload, 1) := by decide +kernel
theorem dX7_paints_57 : decode cX7_paints 57 = .ok (.if_icmp .ge 61, 3) := by decide +kernel
theorem dX7_paints_60 : decode cX7_paints 60 = .ok (.iload 4, 2) := by decide +kernel
theorem dX7_paints_62 : decode cX7_paints 62 = .ok (.iload 6, 2) := by decide +kernel
theorem dX7_paints_64 : decode cX7_paints 64 = .ok (.invokestatic 174, 3) := by decide +kernel
theorem dX7_paints_67 : decode cX7_paints 67 = .ok (.ifCond .eq 45, 3) := by decide +kernel
theorem dX7_paints_70 : decode cX7_paints 70 = .ok (.iload 5, 2) := by decide +kernel
theorem dX7_paints_72 : decode cX7_paints 72 = .ok (.ifCond .eq 22, 3) := by decide +kernel
theorem dX7_paints_75 : decode cX7_paints 75 = .ok (.aload_n 0, 1) := by decide +kernel
theorem dX7_paints_76 : decode cX7_paints 76 = .ok (.getfield 50, 3) := by decide +kernel
theorem dX7_paints_79 : decode cX7_paints 79 = .ok (.bipush 71, 2) := by decide +kernel
theorem dX7_paints_81 : decode cX7_paints 81 = .ok (.iload 6, 2) := by decide +kernel
theorem dX7_paints_83 : decode cX7_paints 83 = .ok (.iadd, 1) := by decide +kernel
theorem dX7_paints_84 : decode cX7_paints 84 = .ok (.iaload, 1) := by decide +kernel
theorem dX7_paints_85 : decode cX7_paints 85 = .ok (.bipush (-4), 2) := by decide +kernel
theorem dX7_paints_87 : decode cX7_paints 87 = .ok (.if_icmp .eq 7, 3) := by decide +kernel
theorem dX7_paints_90 : decode cX7_paints 90 = .ok (.iconst 1, 1) := by decide +kernel
theorem dX7_paints_91 : decode cX7_paints 91 = .ok (.goto 4, 3) := by decide +kernel
theorem dX7_paints_94 : decode cX7_paints 94 = .ok (.iconst 0, 1) := by decide +kernel
theorem dX7_paints_95 : decode cX7_paints 95 = .ok (.istore 5, 2) := by decide +kernel
theorem dX7_paints_97 : decode cX7_paints 97 = .ok (.iload 5, 2) := by decide +kernel
theorem dX7_paints_99 : decode cX7_paints 99 = .ok (.ifCond .eq 13, 3) := by decide +kernel
theorem dX7_paints_102 : decode cX7_paints 102 = .ok (.aload_n 0, 1) := by decide +kernel
theorem dX7_paints_103 : decode cX7_paints 103 = .ok (.aload_n 0, 1) := by decide +kernel
theorem dX7_paints_104 : decode cX7_paints 104 = .ok (.getfield 50, 3) := by decide +kernel
theorem dX7_paints_107 : decode cX7_paints 107 = .ok (.iload 6, 2) := by decide +kernel
theorem dX7_paints_109 : decode cX7_paints 109 = .ok (.invokevirtual 150, 3) := by decide +kernel
theorem dX7_paints_112 : decode cX7_paints 112 = .ok (.iinc 6 1, 3) := by decide +kernel
theorem dX7_paints_115 : decode cX7_paints 115 = .ok (.goto (-66), 3) := by decide +kernel
theorem dX7_paints_118 : decode cX7_paints 118 = .ok (.iload 5, 2) := by decide +kernel
theorem dX7_paints_120 : decode cX7_paints 120 = .ok (.ifCond .eq 10, 3) := by decide +kernel
theorem dX7_paints_123 : decode cX7_paints 123 = .ok (.aload_n 0, 1) := by decide +kernel
theorem dX7_paints_124 : decode cX7_paints 124 = .ok (.invokevirtual 228, 3) := by decide +kernel
theorem dX7_paints_127 : decode cX7_paints 127 = .ok (.goto 4, 3) := by decide +kernel
theorem dX7_paints_130 : decode cX7_paints 130 = .ok (.iconst (-1), 1) := by decide +kernel
theorem dX7_paints_131 : decode cX7_paints 131 = .ok (.istore 6, 2) := by decide +kernel
theorem dX7_paints_133 : decode cX7_paints 133 = .ok (.iload 6, 2) := by decide +kernel
theorem dX7_paints_135 : decode cX7_paints 135 = .ok (.iload_n 3, 1) := by decide +kernel
theorem dX7_paints_136 : decode cX7_paints 136 = .ok (.if_icmp .gt 21, 3) := by decide +kernel
theorem dX7_paints_139 : decode cX7_paints 139 = .ok (.iload 6, 2) := by decide +kernel
theorem dX7_paints_141 : decode cX7_paints 141 = .ok (.iload_n 3, 1) := by decide +kernel
theorem dX7_paints_142 : decode cX7_paints 142 = .ok (.if_icmp .ne 21, 3) := by decide +kernel
theorem dX7_paints_145 : decode cX7_paints 145 = .ok (.iload 4, 2) := by decide +kernel
theorem dX7_paints_147 : decode cX7_paints 147 = .ok (.invokestatic 231, 3) := by decide +kernel
theorem dX7_paints_150 : decode cX7_paints 150 = .ok (.iload_n 2, 1) := by decide +kernel
theorem dX7_paints_151 : decode cX7_paints 151 = .ok (.invokestatic 231, 3) := by decide +kernel
theorem dX7_paints_154 : decode cX7_paints 154 = .ok (.if_icmp .ge 9, 3) := by decide +kernel
theorem dX7_paints_157 : decode cX7_paints 157 = .ok (.iload 4, 2) := by decide +kernel
theorem dX7_paints_159 : decode cX7_paints 159 = .ok (.istore_n 2, 1) := by decide +kernel
theorem dX7_paints_160 : decode cX7_paints 160 = .ok (.iload 6, 2) := by decide +kernel
theorem dX7_paints_162 : decode cX7_paints 162 = .ok (.istore_n 3, 1) := by decide +kernel
theorem dX7_paints_163 : decode cX7_paints 163 = .ok (.iinc 4 1, 3) := by decide +kernel
theorem dX7_paints_166 : decode cX7_paints 166 = .ok (.goto (-148), 3) := by decide +kernel
theorem dX7_paints_169 : decode cX7_paints 169 = .ok (.iload_n 1, 1) := by decide +kernel
theorem dX7_paints_170 : decode cX7_paints 170 = .ok (.ifCond .ne 7, 3) := by decide +kernel
theorem dX7_paints_173 : decode cX7_paints 173 = .ok (.iload_n 2, 1) := by decide +kernel
theorem dX7_paints_174 : decode cX7_paints 174 = .ok (.goto 4, 3) := by decide +kernel
theorem dX7_paints_177 : decode cX7_paints 177 = .ok (.iload_n 3, 1) := by decide +kernel
theorem dX7_paints_178 : decode cX7_paints 178 = .ok (.ireturn, 1) := by decide +kernel
theorem dX7_cover_0 : decode cX7_cover 0 = .ok (.iload_n 1, 1) := by decide +kernel
theorem dX7_cover_1 : decode cX7_cover 1 = .ok (.iconst 0, 1) := by decide +kernel
theorem dX7_cover_2 : decode cX7_cover 2 = .ok (.iconst 1, 1) := by decide +kernel
theorem dX7_cover_3 : decode cX7_cover 3 = .ok (.invokestatic 83, 3) := by decide +kernel
theorem dX7_cover_6 : decode cX7_cover 6 = .ok (.ifCond .ne 5, 3) := by decide +kernel
theorem dX7_cover_9 : decode cX7_cover 9 = .ok (.iconst (-1), 1) := by decide +kernel
theorem dX7_cover_10 : decode cX7_cover 10 = .ok (.ireturn, 1) := by decide +kernel
theorem dX7_cover_11 : decode cX7_cover 11 = .ok (.bipush (-4), 2) := by decide +kernel
theorem dX7_cover_13 : decode cX7_cover 13 = .ok (.istore_n 2, 1) := by decide +kernel
theorem dX7_cover_14 : decode cX7_cover 14 = .ok (.iconst 0, 1) := by decide +kernel
theorem dX7_cover_15 : decode cX7_cover 15 = .ok (.istore_n 3, 1) := by decide +kernel
theorem dX7_cover_16 : decode cX7_cover 16 = .ok (.iload_n 3, 1) := by decide +kernel
theorem dX7_cover_17 : decode cX7_cover 17 = .ok (.iconst 1, 1) := by decide +kernel
theorem dX7_cover_18 : decode cX7_cover 18 = .ok (.aload_n 0, 1) := by decide +kernel
theorem dX7_cover_19 : decode cX7_cover 19 = .ok (.getfield 13, 3) := by decide +kernel
theorem dX7_cover_22 : decode cX7_cover 22 = .ok (.iconst 0, 1) := by decide +kernel
theorem dX7_cover_23 : decode cX7_cover 23 = .ok (.iaload, 1) := by decide +kernel
theorem dX7_cover_24 : decode cX7_cover 24 = .ok (.ishl, 1) := by decide +kernel
theorem dX7_cover_25 : decode cX7_cover 25 = .ok (.if_icmp .ge 69, 3) := by decide +kernel
theorem dX7_cover_28 : decode cX7_cover 28 = .ok (.iload_n 2, 1) := by decide +kernel
theorem dX7_cover_29 : decode cX7_cover 29 = .ok (.bipush (-4), 2) := by decide +kernel
theorem dX7_cover_31 : decode cX7_cover 31 = .ok (.if_icmp .eq 14, 3) := by decide +kernel
theorem dX7_cover_34 : decode cX7_cover 34 = .ok (.iload_n 3, 1) := by decide +kernel
theorem dX7_cover_35 : decode cX7_cover 35 = .ok (.invokestatic 231, 3) := by decide +kernel
theorem dX7_cover_38 : decode cX7_cover 38 = .ok (.iload_n 2, 1) := by decide +kernel
theorem dX7_cover_39 : decode cX7_cover 39 = .ok (.invokestatic 231, 3) := by decide +kernel
theorem dX7_cover_42 : decode cX7_cover 42 = .ok (.if_icmp .ge 46, 3) := by decide +kernel
theorem dX7_cover_45 : decode cX7_cover 45 = .ok (.aload_n 0, 1) := by decide +kernel
theorem dX7_cover_46 : decode cX7_cover 46 = .ok (.invokevirtual 225, 3) := by decide +kernel
theorem dX7_cover_49 : decode cX7_cover 49 = .ok (.aload_n 0, 1) := by decide +kernel
theorem dX7_cover_50 : decode cX7_cover 50 = .ok (.iload_n 3, 1) := by decide +kernel
theorem dX7_cover_51 : decode cX7_cover 51 = .ok (.putfield 192, 3) := by decide +kernel
theorem dX7_cover_54 : decode cX7_cover 54 = .ok (.aload_n 0, 1) := by decide +kernel
theorem dX7_cover_55 : decode cX7_cover 55 = .ok (.iconst 1, 1) := by decide +kernel
theorem dX7_cover_56 : decode cX7_cover 56 = .ok (.putfield 181, 3) := by decide +kernel
theorem dX7_cover_59 : decode cX7_cover 59 = .ok (.aload_n 0, 1) := by decide +kernel
theorem dX7_cover_60 : decode cX7_cover 60 = .ok (.invokevirtual 228, 3) := by decide +kernel
theorem dX7_cover_63 : decode cX7_cover 63 = .ok (.aload_n 0, 1) := by decide +kernel
theorem dX7_cover_64 : decode cX7_cover 64 = .ok (.getfield 20, 3) := by decide +kernel
theorem dX7_cover_67 : decode cX7_cover 67 = .ok (.iconst 0, 1) := by decide +kernel
theorem dX7_cover_68 : decode cX7_cover 68 = .ok (.iaload, 1) := by decide +kernel
theorem dX7_cover_69 : decode cX7_cover 69 = .ok (.if_icmp .ne 7, 3) := by decide +kernel
theorem dX7_cover_72 : decode cX7_cover 72 = .ok (.iload_n 3, 1) := by decide +kernel
theorem dX7_cover_73 : decode cX7_cover 73 = .ok (.goto 4, 3) := by decide +kernel
theorem dX7_cover_76 : decode cX7_cover 76 = .ok (.iload_n 2, 1) := by decide +kernel
theorem dX7_cover_77 : decode cX7_cover 77 = .ok (.istore_n 2, 1) := by decide +kernel
theorem dX7_cover_78 : decode cX7_cover 78 = .ok (.aload_n 0, 1) := by decide +kernel
theorem dX7_cover_79 : decode cX7_cover 79 = .ok (.iconst 0, 1) := by decide +kernel
theorem dX7_cover_80 : decode cX7_cover 80 = .ok (.putfield 192, 3) := by decide +kernel
theorem dX7_cover_83 : decode cX7_cover 83 = .ok (.aload_n 0, 1) := by decide +kernel
theorem dX7_cover_84 : decode cX7_cover 84 = .ok (.iconst 0, 1) := by decide +kernel
theorem dX7_cover_85 : decode cX7_cover 85 = .ok (.putfield 181, 3) := by decide +kernel
theorem dX7_cover_88 : decode cX7_cover 88 = .ok (.iinc 3 1, 3) := by decide +kernel
theorem dX7_cover_91 : decode cX7_cover 91 = .ok (.goto (-75), 3) := by decide +kernel
theorem dX7_cover_94 : decode cX7_cover 94 = .ok (.iload_n 2, 1) := by decide +kernel
theorem dX7_cover_95 : decode cX7_cover 95 = .ok (.bipush (-4), 2) := by decide +kernel
theorem dX7_cover_97 : decode cX7_cover 97 = .ok (.if_icmp .eq 8, 3) := by decide +kernel
theorem dX7_cover_100 : decode cX7_cover 100 = .ok (.iload_n 1, 1) := by decide +kernel
theorem dX7_cover_101 : decode cX7_cover 101 = .ok (.iconst 1, 1) := by decide +kernel
theorem dX7_cover_102 : decode cX7_cover 102 = .ok (.if_icmp .ne 7, 3) := by decide +kernel
theorem dX7_cover_105 : decode cX7_cover 105 = .ok (.iload_n 2, 1) := by decide +kernel
theorem dX7_cover_106 : decode cX7_cover 106 = .ok (.goto 7, 3) := by decide +kernel
theorem dX7_cover_109 : decode cX7_cover 109 = .ok (.iload_n 2, 1) := by decide +kernel
theorem dX7_cover_110 : decode cX7_cover 110 = .ok (.invokestatic 231, 3) := by decide +kernel
theorem dX7_cover_113 : decode cX7_cover 113 = .ok (.ireturn, 1) := by decide +kernel
theorem dX7_far_0 : decode cX7_far 0 = .ok (.aload_n 0, 1) := by decide +kernel
theorem dX7_far_1 : decode cX7_far 1 = .ok (.iload_n 1, 1) := by decide +kernel
theorem dX7_far_2 : decode cX7_far 2 = .ok (.invokevirtual 205, 3) := by decide +kernel
theorem dX7_far_5 : decode cX7_far 5 = .ok (.ifCond .eq 11, 3) := by decide +kernel
theorem dX7_far_8 : decode cX7_far 8 = .ok (.aload_n 0, 1) := by decide +kernel
theorem dX7_far_9 : decode cX7_far 9 = .ok (.iload_n 2, 1) := by decide +kernel
theorem dX7_far_10 : decode cX7_far 10 = .ok (.invokevirtual 205, 3) := by decide +kernel
theorem dX7_far_13 : decode cX7_far 13 = .ok (.ifCond .ne 5, 3) := by decide +kernel
theorem dX7_far_16 : decode cX7_far 16 = .ok (.iconst (-1), 1) := by decide +kernel
theorem dX7_far_17 : decode cX7_far 17 = .ok (.ireturn, 1) := by decide +kernel
theorem dX7_far_18 : decode cX7_far 18 = .ok (.aload_n 0, 1) := by decide +kernel
theorem dX7_far_19 : decode cX7_far 19 = .ok (.aload_n 0, 1) := by decide +kernel
theorem dX7_far_20 : decode cX7_far 20 = .ok (.getfield 41, 3) := by decide +kernel
theorem dX7_far_23 : decode cX7_far 23 = .ok (.invokevirtual 146, 3) := by decide +kernel
theorem dX7_far_26 : decode cX7_far 26 = .ok (.aload_n 0, 1) := by decide +kernel
theorem dX7_far_27 : decode cX7_far 27 = .ok (.getfield 53, 3) := by decide +kernel
theorem dX7_far_30 : decode cX7_far 30 = .ok (.bipush 8, 2) := by decide +kernel
theorem dX7_far_32 : decode cX7_far 32 = .ok (.iload_n 1, 1) := by decide +kernel
theorem dX7_far_33 : decode cX7_far 33 = .ok (.imul, 1) := by decide +kernel
theorem dX7_far_34 : decode cX7_far 34 = .ok (.iload_n 2, 1) := by decide +kernel
theorem dX7_far_35 : decode cX7_far 35 = .ok (.iadd, 1) := by decide +kernel
theorem dX7_far_36 : decode cX7_far 36 = .ok (.iaload, 1) := by decide +kernel
theorem dX7_far_37 : decode cX7_far 37 = .ok (.istore_n 3, 1) := by decide +kernel
theorem dX7_far_38 : decode cX7_far 38 = .ok (.iload_n 3, 1) := by decide +kernel
theorem dX7_far_39 : decode cX7_far 39 = .ok (.ldc 166, 2) := by decide +kernel
theorem dX7_far_41 : decode cX7_far 41 = .ok (.if_icmp .ge 7, 3) := by decide +kernel
theorem dX7_far_44 : decode cX7_far 44 = .ok (.iload_n 3, 1) := by decide +kernel
theorem dX7_far_45 : decode cX7_far 45 = .ok (.goto 5, 3) := by decide +kernel
theorem dX7_far_48 : decode cX7_far 48 = .ok (.bipush (-4), 2) := by decide +kernel
theorem dX7_far_50 : decode cX7_far 50 = .ok (.ireturn, 1) := by decide +kernel
theorem dX7_told_0 : decode cX7_told 0 = .ok (.aload_n 0, 1) := by decide +kernel
theorem dX7_told_1 : decode cX7_told 1 = .ok (.iload_n 1, 1) := by decide +kernel
theorem dX7_told_2 : decode cX7_told 2 = .ok (.invokevirtual 205, 3) := by decide +kernel
theorem dX7_told_5 : decode cX7_told 5 = .ok (.ifCond .eq 21, 3) := by decide +kernel
theorem dX7_told_8 : decode cX7_told 8 = .ok (.aload_n 0, 1) := by decide +kernel
theorem dX7_told_9 : decode cX7_told 9 = .ok (.iload_n 2, 1) := by decide +kernel
theorem dX7_told_10 : decode cX7_told 10 = .ok (.invokevirtual 205, 3) := by decide +kernel
theorem dX7_told_13 : decode cX7_told 13 = .ok (.ifCond .eq 13, 3) := by decide +kernel
theorem dX7_told_16 : decode cX7_told 16 = .ok (.iload_n 3, 1) := by decide +kernel
theorem dX7_told_17 : decode cX7_told 17 = .ok (.iconst 0, 1) := by decide +kernel
theorem dX7_told_18 : decode cX7_told 18 = .ok (.bipush 72, 2) := by decide +kernel
theorem dX7_told_20 : decode cX7_told 20 = .ok (.invokestatic 83, 3) := by decide +kernel
theorem dX7_told_23 : decode cX7_told 23 = .ok (.ifCond .ne 5, 3) := by decide +kernel
theorem dX7_told_26 : decode cX7_told 26 = .ok (.iconst (-1), 1) := by decide +kernel
theorem dX7_told_27 : decode cX7_told 27 = .ok (.ireturn, 1) := by decide +kernel
theorem dX7_told_28 : decode cX7_told 28 = .ok (.aload_n 0, 1) := by decide +kernel
theorem dX7_told_29 : decode cX7_told 29 = .ok (.getfield 160, 3) := by decide +kernel
theorem dX7_told_32 : decode cX7_told 32 = .ok (.bipush 6, 2) := by decide +kernel
theorem dX7_told_34 : decode cX7_told 34 = .ok (.if_icmp .ne 6, 3) := by decide +kernel
theorem dX7_told_37 : decode cX7_told 37 = .ok (.bipush (-3), 2) := by decide +kernel
theorem dX7_told_39 : decode cX7_told 39 = .ok (.ireturn, 1) := by decide +kernel
theorem dX7_told_40 : decode cX7_told 40 = .ok (.aload_n 0, 1) := by decide +kernel
theorem dX7_told_41 : decode cX7_told 41 = .ok (.getfield 59, 3) := by decide +kernel
theorem dX7_told_44 : decode cX7_told 44 = .ok (.aload_n 0, 1) := by decide +kernel
theorem dX7_told_45 : decode cX7_told 45 = .ok (.getfield 160, 3) := by decide +kernel
theorem dX7_told_48 : decode cX7_told 48 = .ok (.iload_n 1, 1) := by decide +kernel
theorem dX7_told_49 : decode cX7_told 49 = .ok (.iastore, 1) := by decide +kernel
theorem dX7_told_50 : decode cX7_told 50 = .ok (.aload_n 0, 1) := by decide +kernel
theorem dX7_told_51 : decode cX7_told 51 = .ok (.getfield 62, 3) := by decide +kernel
theorem dX7_told_54 : decode cX7_told 54 = .ok (.aload_n 0, 1) := by decide +kernel
theorem dX7_told_55 : decode cX7_told 55 = .ok (.getfield 160, 3) := by decide +kernel
theorem dX7_told_58 : decode cX7_told 58 = .ok (.iload_n 2, 1) := by decide +kernel
theorem dX7_told_59 : decode cX7_told 59 = .ok (.iastore, 1) := by decide +kernel
theorem dX7_told_60 : decode cX7_told 60 = .ok (.aload_n 0, 1) := by decide +kernel
theorem dX7_told_61 : decode cX7_told 61 = .ok (.getfield 65, 3) := by decide +kernel
theorem dX7_told_64 : decode cX7_told 64 = .ok (.aload_n 0, 1) := by decide +kernel
theorem dX7_told_65 : decode cX7_told 65 = .ok (.getfield 160, 3) := by decide +kernel
theorem dX7_told_68 : decode cX7_told 68 = .ok (.iload_n 3, 1) := by decide +kernel
theorem dX7_told_69 : decode cX7_told 69 = .ok (.iastore, 1) := by decide +kernel
theorem dX7_told_70 : decode cX7_told 70 = .ok (.aload_n 0, 1) := by decide +kernel
theorem dX7_told_71 : decode cX7_told 71 = .ok (.dup, 1) := by decide +kernel
theorem dX7_told_72 : decode cX7_told 72 = .ok (.getfield 160, 3) := by decide +kernel
theorem dX7_told_75 : decode cX7_told 75 = .ok (.iconst 1, 1) := by decide +kernel
theorem dX7_told_76 : decode cX7_told 76 = .ok (.iadd, 1) := by decide +kernel
theorem dX7_told_77 : decode cX7_told 77 = .ok (.putfield 160, 3) := by decide +kernel
theorem dX7_told_80 : decode cX7_told 80 = .ok (.aload_n 0, 1) := by decide +kernel
theorem dX7_told_81 : decode cX7_told 81 = .ok (.getfield 160, 3) := by decide +kernel
theorem dX7_told_84 : decode cX7_told 84 = .ok (.ireturn, 1) := by decide +kernel
theorem dX7_stood_0 : decode cX7_stood 0 = .ok (.aload_n 0, 1) := by decide +kernel
theorem dX7_stood_1 : decode cX7_stood 1 = .ok (.aload_n 0, 1) := by decide +kernel
theorem dX7_stood_2 : decode cX7_stood 2 = .ok (.getfield 41, 3) := by decide +kernel
theorem dX7_stood_5 : decode cX7_stood 5 = .ok (.invokevirtual 146, 3) := by decide +kernel
theorem dX7_stood_8 : decode cX7_stood 8 = .ok (.iconst 0, 1) := by decide +kernel
theorem dX7_stood_9 : decode cX7_stood 9 = .ok (.istore_n 1, 1) := by decide +kernel
theorem dX7_stood_10 : decode cX7_stood 10 = .ok (.iconst 0, 1) := by decide +kernel
theorem dX7_stood_11 : decode cX7_stood 11 = .ok (.istore_n 2, 1) := by decide +kernel
theorem dX7_stood_12 : decode cX7_stood 12 = .ok (.iload_n 2, 1) := by decide +kernel
theorem dX7_stood_13 : decode cX7_stood 13 = .ok (.aload_n 0, 1) := by decide +kernel
theorem dX7_stood_14 : decode cX7_stood 14 = .ok (.getfield 13, 3) := by decide +kernel
theorem dX7_stood_17 : decode cX7_stood 17 = .ok (.iconst 0, 1) := by decide +kernel
theorem dX7_stood_18 : decode cX7_stood 18 = .ok (.iaload, 1) := by decide +kernel
theorem dX7_stood_19 : decode cX7_stood 19 = .ok (.if_icmp .ge 106, 3) := by decide +kernel
theorem dX7_stood_22 : decode cX7_stood 22 = .ok (.iconst 1, 1) := by decide +kernel
theorem dX7_stood_23 : decode cX7_stood 23 = .ok (.istore_n 3, 1) := by decide +kernel
theorem dX7_stood_24 : decode cX7_stood 24 = .ok (.iconst 0, 1) := by decide +kernel
theorem dX7_stood_25 : decode cX7_stood 25 = .ok (.istore 4, 2) := by decide +kernel
theorem dX7_stood_27 : decode cX7_stood 27 = .ok (.iload 4, 2) := by decide +kernel
theorem dX7_stood_29 : decode cX7_stood 29 = .ok (.aload_n 0, 1) := by decide +kernel
theorem dX7_stood_30 : decode cX7_stood 30 = .ok (.getfield 160, 3) := by decide +kernel
theorem dX7_stood_33 : decode cX7_stood 33 = .ok (.if_icmp .ge 72, 3) := by decide +kernel
theorem dX7_stood_36 : decode cX7_stood 36 = .ok (.iload_n 3, 1) := by decide +kernel
theorem dX7_stood_37 : decode cX7_stood 37 = .ok (.ifCond .eq 60, 3) := by decide +kernel
theorem dX7_stood_40 : decode cX7_stood 40 = .ok (.aload_n 0, 1) := by decide +kernel
theorem dX7_stood_41 : decode cX7_stood 41 = .ok (.aload_n 0, 1) := by decide +kernel
theorem dX7_stood_42 : decode cX7_stood 42 = .ok (.getfield 41, 3) := by decide +kernel
theorem dX7_stood_45 : decode cX7_stood 45 = .ok (.iload_n 2, 1) := by decide +kernel
theorem dX7_stood_46 : decode cX7_stood 46 = .ok (.aload_n 0, 1) := by decide +kernel
theorem dX7_stood_47 : decode cX7_stood 47 = .ok (.getfield 59, 3) := by decide +kernel
theorem dX7_stood_50 : decode cX7_stood 50 = .ok (.iload 4, 2) := by decide +kernel
theorem dX7_stood_52 : decode cX7_stood 52 = .ok (.iaload, 1) := by decide +kernel
theorem dX7_stood_53 : decode cX7_stood 53 = .ok (.invokevirtual 167, 3) := by decide +kernel
theorem dX7_stood_56 : decode cX7_stood 56 = .ok (.aload_n 0, 1) := by decide +kernel
theorem dX7_stood_57 : decode cX7_stood 57 = .ok (.getfield 62, 3) := by decide +kernel
theorem dX7_stood_60 : decode cX7_stood 60 = .ok (.iload 4, 2) := by decide +kernel
theorem dX7_stood_62 : decode cX7_stood 62 = .ok (.iaload, 1) := by decide +kernel
theorem dX7_stood_63 : decode cX7_stood 63 = .ok (.if_icmp .ne 34, 3) := by decide +kernel
theorem dX7_stood_66 : decode cX7_stood 66 = .ok (.aload_n 0, 1) := by decide +kernel
theorem dX7_stood_67 : decode cX7_stood 67 = .ok (.getfield 53, 3) := by decide +kernel
theorem dX7_stood_70 : decode cX7_stood 70 = .ok (.bipush 8, 2) := by decide +kernel
theorem dX7_stood_72 : decode cX7_stood 72 = .ok (.iload_n 2, 1) := by decide +kernel
theorem dX7_stood_73 : decode cX7_stood 73 = .ok (.imul, 1) := by decide +kernel
theorem dX7_stood_74 : decode cX7_stood 74 = .ok (.aload_n 0, 1) := by decide +kernel
theorem dX7_stood_75 : decode cX7_stood 75 = .ok (.getfield 59, 3) := by decide +kernel
theorem dX7_stood_78 : decode cX7_stood 78 = .ok (.iload 4, 2) := by decide +kernel
theorem dX7_stood_80 : decode cX7_stood 80 = .ok (.iaload, 1) := by decide +kernel
theorem dX7_stood_81 : decode cX7_stood 81 = .ok (.iadd, 1) := by decide +kernel
theorem dX7_stood_82 : decode cX7_stood 82 = .ok (.iaload, 1) := by decide +kernel
theorem dX7_stood_83 : decode cX7_stood 83 = .ok (.aload_n 0, 1) := by decide +kernel
theorem dX7_stood_84 : decode cX7_stood 84 = .ok (.getfield 65, 3) := by decide +kernel
theorem dX7_stood_87 : decode cX7_stood 87 = .ok (.iload 4, 2) := by decide +kernel
theorem dX7_stood_89 : decode cX7_stood 89 = .ok (.iaload, 1) := by decide +kernel
theorem dX7_stood_90 : decode cX7_stood 90 = .ok (.if_icmp .ne 7, 3) := by decide +kernel
theorem dX7_stood_93 : decode cX7_stood 93 = .ok (.iconst 1, 1) := by decide +kernel
theorem dX7_stood_94 : decode cX7_stood 94 = .ok (.goto 4, 3) := by decide +kernel
theorem dX7_stood_97 : decode cX7_stood 97 = .ok (.iconst 0, 1) := by decide +kernel
theorem dX7_stood_98 : decode cX7_stood 98 = .ok (.istore_n 3, 1) := by decide +kernel
theorem dX7_stood_99 : decode cX7_stood 99 = .ok (.iinc 4 1, 3) := by decide +kernel
theorem dX7_stood_102 : decode cX7_stood 102 = .ok (.goto (-75), 3) := by decide +kernel
theorem dX7_stood_105 : decode cX7_stood 105 = .ok (.iload_n 1, 1) := by decide +kernel
theorem dX7_stood_106 : decode cX7_stood 106 = .ok (.iload_n 3, 1) := by decide +kernel
theorem dX7_stood_107 : decode cX7_stood 107 = .ok (.ifCond .eq 9, 3) := by decide +kernel
theorem dX7_stood_110 : decode cX7_stood 110 = .ok (.iconst 1, 1) := by decide +kernel
theorem dX7_stood_111 : decode cX7_stood 111 = .ok (.iload_n 2, 1) := by decide +kernel
theorem dX7_stood_112 : decode cX7_stood 112 = .ok (.ishl, 1) := by decide +kernel
theorem dX7_stood_113 : decode cX7_stood 113 = .ok (.goto 4, 3) := by decide +kernel
theorem dX7_stood_116 : decode cX7_stood 116 = .ok (.iconst 0, 1) := by decide +kernel
theorem dX7_stood_117 : decode cX7_stood 117 = .ok (.ior, 1) := by decide +kernel
theorem dX7_stood_118 : decode cX7_stood 118 = .ok (.istore_n 1, 1) := by decide +kernel
theorem dX7_stood_119 : decode cX7_stood 119 = .ok (.iinc 2 1, 3) := by decide +kernel
theorem dX7_stood_122 : decode cX7_stood 122 = .ok (.goto (-110), 3) := by decide +kernel
theorem dX7_stood_125 : decode cX7_stood 125 = .ok (.iload_n 1, 1) := by decide +kernel
theorem dX7_stood_126 : decode cX7_stood 126 = .ok (.ireturn, 1) := by decide +kernel
theorem dX7_areAlike_0 : decode cX7_areAlike 0 = .ok (.aload_n 0, 1) := by decide +kernel
theorem dX7_areAlike_1 : decode cX7_areAlike 1 = .ok (.aload_n 0, 1) := by decide +kernel
theorem dX7_areAlike_2 : decode cX7_areAlike 2 = .ok (.getfield 41, 3) := by decide +kernel
theorem dX7_areAlike_5 : decode cX7_areAlike 5 = .ok (.iload_n 1, 1) := by decide +kernel
theorem dX7_areAlike_6 : decode cX7_areAlike 6 = .ok (.iload_n 3, 1) := by decide +kernel
theorem dX7_areAlike_7 : decode cX7_areAlike 7 = .ok (.invokevirtual 167, 3) := by decide +kernel
theorem dX7_areAlike_10 : decode cX7_areAlike 10 = .ok (.istore 4, 2) := by decide +kernel
theorem dX7_areAlike_12 : decode cX7_areAlike 12 = .ok (.iload 4, 2) := by decide +kernel
theorem dX7_areAlike_14 : decode cX7_areAlike 14 = .ok (.aload_n 0, 1) := by decide +kernel
theorem dX7_areAlike_15 : decode cX7_areAlike 15 = .ok (.aload_n 0, 1) := by decide +kernel
theorem dX7_areAlike_16 : decode cX7_areAlike 16 = .ok (.getfield 41, 3) := by decide +kernel
theorem dX7_areAlike_19 : decode cX7_areAlike 19 = .ok (.iload_n 2, 1) := by decide +kernel
theorem dX7_areAlike_20 : decode cX7_areAlike 20 = .ok (.iload_n 3, 1) := by decide +kernel
theorem dX7_areAlike_21 : decode cX7_areAlike 21 = .ok (.invokevirtual 167, 3) := by decide +kernel
theorem dX7_areAlike_24 : decode cX7_areAlike 24 = .ok (.if_icmp .ne 39, 3) := by decide +kernel
theorem dX7_areAlike_27 : decode cX7_areAlike 27 = .ok (.iload 4, 2) := by decide +kernel
theorem dX7_areAlike_29 : decode cX7_areAlike 29 = .ok (.bipush (-4), 2) := by decide +kernel
theorem dX7_areAlike_31 : decode cX7_areAlike 31 = .ok (.if_icmp .eq 28, 3) := by decide +kernel
theorem dX7_areAlike_34 : decode cX7_areAlike 34 = .ok (.aload_n 0, 1) := by decide +kernel
theorem dX7_areAlike_35 : decode cX7_areAlike 35 = .ok (.getfield 53, 3) := by decide +kernel
theorem dX7_areAlike_38 : decode cX7_areAlike 38 = .ok (.bipush 8, 2) := by decide +kernel
theorem dX7_areAlike_40 : decode cX7_areAlike 40 = .ok (.iload_n 1, 1) := by decide +kernel
theorem dX7_areAlike_41 : decode cX7_areAlike 41 = .ok (.imul, 1) := by decide +kernel
theorem dX7_areAlike_42 : decode cX7_areAlike 42 = .ok (.iload_n 3, 1) := by decide +kernel
theorem dX7_areAlike_43 : decode cX7_areAlike 43 = .ok (.iadd, 1) := by decide +kernel
theorem dX7_areAlike_44 : decode cX7_areAlike 44 = .ok (.iaload, 1) := by decide +kernel
theorem dX7_areAlike_45 : decode cX7_areAlike 45 = .ok (.aload_n 0, 1) := by decide +kernel
theorem dX7_areAlike_46 : decode cX7_areAlike 46 = .ok (.getfield 53, 3) := by decide +kernel
theorem dX7_areAlike_49 : decode cX7_areAlike 49 = .ok (.bipush 8, 2) := by decide +kernel
theorem dX7_areAlike_51 : decode cX7_areAlike 51 = .ok (.iload_n 2, 1) := by decide +kernel
theorem dX7_areAlike_52 : decode cX7_areAlike 52 = .ok (.imul, 1) := by decide +kernel
theorem dX7_areAlike_53 : decode cX7_areAlike 53 = .ok (.iload_n 3, 1) := by decide +kernel
theorem dX7_areAlike_54 : decode cX7_areAlike 54 = .ok (.iadd, 1) := by decide +kernel
theorem dX7_areAlike_55 : decode cX7_areAlike 55 = .ok (.iaload, 1) := by decide +kernel
theorem dX7_areAlike_56 : decode cX7_areAlike 56 = .ok (.if_icmp .ne 7, 3) := by decide +kernel
theorem dX7_areAlike_59 : decode cX7_areAlike 59 = .ok (.iconst 1, 1) := by decide +kernel
theorem dX7_areAlike_60 : decode cX7_areAlike 60 = .ok (.goto 4, 3) := by decide +kernel
theorem dX7_areAlike_63 : decode cX7_areAlike 63 = .ok (.iconst 0, 1) := by decide +kernel
theorem dX7_areAlike_64 : decode cX7_areAlike 64 = .ok (.ireturn, 1) := by decide +kernel
theorem dX7_next_0 : decode cX7_next 0 = .ok (.aload_n 0, 1) := by decide +kernel
theorem dX7_next_1 : decode cX7_next 1 = .ok (.invokevirtual 235, 3) := by decide +kernel
theorem dX7_next_4 : decode cX7_next 4 = .ok (.istore_n 1, 1) := by decide +kernel
theorem dX7_next_5 : decode cX7_next 5 = .ok (.bipush (-4), 2) := by decide +kernel
theorem dX7_next_7 : decode cX7_next 7 = .ok (.istore_n 2, 1) := by decide +kernel
theorem dX7_next_8 : decode cX7_next 8 = .ok (.iconst 0, 1) := by decide +kernel
theorem dX7_next_9 : decode cX7_next 9 = .ok (.istore_n 3, 1) := by decide +kernel
theorem dX7_next_10 : decode cX7_next 10 = .ok (.iconst 0, 1) := by decide +kernel
theorem dX7_next_11 : decode cX7_next 11 = .ok (.istore 4, 2) := by decide +kernel
theorem dX7_next_13 : decode cX7_next 13 = .ok (.iload 4, 2) := by decide +kernel
theorem dX7_next_15 : decode cX7_next 15 = .ok (.aload_n 0, 1) := by decide +kernel
theorem dX7_next_16 : decode cX7_next 16 = .ok (.getfield 13, 3) := by decide +kernel
theorem dX7_next_19 : decode cX7_next 19 = .ok (.iconst 0, 1) := by decide +kernel
theorem dX7_next_20 : decode cX7_next 20 = .ok (.iaload, 1) := by decide +kernel
theorem dX7_next_21 : decode cX7_next 21 = .ok (.if_icmp .ge 134, 3) := by decide +kernel
theorem dX7_next_24 : decode cX7_next 24 = .ok (.iload_n 1, 1) := by decide +kernel
theorem dX7_next_25 : decode cX7_next 25 = .ok (.ifCond .eq 130, 3) := by decide +kernel
theorem dX7_next_28 : decode cX7_next 28 = .ok (.iconst 0, 1) := by decide +kernel
theorem dX7_next_29 : decode cX7_next 29 = .ok (.istore 5, 2) := by decide +kernel
theorem dX7_next_31 : decode cX7_next 31 = .ok (.iconst 0, 1) := by decide +kernel
theorem dX7_next_32 : decode cX7_next 32 = .ok (.istore 6, 2) := by decide +kernel
theorem dX7_next_34 : decode cX7_next 34 = .ok (.iload 6, 2) := by decide +kernel
theorem dX7_next_36 : decode cX7_next 36 = .ok (.aload_n 0, 1) := by decide +kernel
theorem dX7_next_37 : decode cX7_next 37 = .ok (.getfield 13, 3) := by decide +kernel
theorem dX7_next_40 : decode cX7_next 40 = .ok (.iconst 0, 1) := by decide +kernel
theorem dX7_next_41 : decode cX7_next 41 = .ok (.iaload, 1) := by decide +kernel
theorem dX7_next_42 : decode cX7_next 42 = .ok (.if_icmp .ge 89, 3) := by decide +kernel
theorem dX7_next_45 : decode cX7_next 45 = .ok (.iconst 0, 1) := by decide +kernel
theorem dX7_next_46 : decode cX7_next 46 = .ok (.istore 7, 2) := by decide +kernel
theorem dX7_next_48 : decode cX7_next 48 = .ok (.iconst 0, 1) := by decide +kernel
theorem dX7_next_49 : decode cX7_next 49 = .ok (.istore 8, 2) := by decide +kernel
theorem dX7_next_51 : decode cX7_next 51 = .ok (.iload 8, 2) := by decide +kernel
theorem dX7_next_53 : decode cX7_next 53 = .ok (.aload_n 0, 1) := by decide +kernel
theorem dX7_next_54 : decode cX7_next 54 = .ok (.getfield 13, 3) := by decide +kernel
theorem dX7_next_57 : decode cX7_next 57 = .ok (.iconst 0, 1) := by decide +kernel
theorem dX7_next_58 : decode cX7_next 58 = .ok (.iaload, 1) := by decide +kernel
theorem dX7_next_59 : decode cX7_next 59 = .ok (.if_icmp .ge 50, 3) := by decide +kernel
theorem dX7_next_62 : decode cX7_next 62 = .ok (.iload 7, 2) := by decide +kernel
theorem dX7_next_64 : decode cX7_next 64 = .ok (.iload_n 1, 1) := by decide +kernel
theorem dX7_next_65 : decode cX7_next 65 = .ok (.iload 6, 2) := by decide +kernel
theorem dX7_next_67 : decode cX7_next 67 = .ok (.invokestatic 174, 3) := by decide +kernel
theorem dX7_next_70 : decode cX7_next 70 = .ok (.ifCond .eq 29, 3) := by decide +kernel
theorem dX7_next_73 : decode cX7_next 73 = .ok (.iload_n 1, 1) := by decide +kernel
theorem dX7_next_74 : decode cX7_next 74 = .ok (.iload 8, 2) := by decide +kernel
theorem dX7_next_76 : decode cX7_next 76 = .ok (.invokestatic 174, 3) := by decide +kernel
theorem dX7_next_79 : decode cX7_next 79 = .ok (.ifCond .eq 20, 3) := by decide +kernel
theorem dX7_next_82 : decode cX7_next 82 = .ok (.aload_n 0, 1) := by decide +kernel
theorem dX7_next_83 : decode cX7_next 83 = .ok (.iload 6, 2) := by decide +kernel
theorem dX7_next_85 : decode cX7_next 85 = .ok (.iload 8, 2) := by decide +kernel
theorem dX7_next_87 : decode cX7_next 87 = .ok (.iload 4, 2) := by decide +kernel
theorem dX7_next_89 : decode cX7_next 89 = .ok (.invokevirtual 238, 3) := by decide +kernel
theorem dX7_next_92 : decode cX7_next 92 = .ok (.ifCond .eq 7, 3) := by decide +kernel
theorem dX7_next_95 : decode cX7_next 95 = .ok (.iconst 1, 1) := by decide +kernel
theorem dX7_next_96 : decode cX7_next 96 = .ok (.goto 4, 3) := by decide +kernel
theorem dX7_next_99 : decode cX7_next 99 = .ok (.iconst 0, 1) := by decide +kernel
theorem dX7_next_100 : decode cX7_next 100 = .ok (.iadd, 1) := by decide +kernel
theorem dX7_next_101 : decode cX7_next 101 = .ok (.istore 7, 2) := by decide +kernel
theorem dX7_next_103 : decode cX7_next 103 = .ok (.iinc 8 1, 3) := by decide +kernel
theorem dX7_next_106 : decode cX7_next 106 = .ok (.goto (-55), 3) := by decide +kernel
theorem dX7_next_109 : decode cX7_next 109 = .ok (.iload 7, 2) := by decide +kernel
theorem dX7_next_111 : decode cX7_next 111 = .ok (.iload 5, 2) := by decide +kernel
theorem dX7_next_113 : decode cX7_next 113 = .ok (.if_icmp .le 8, 3) := by decide +kernel
theorem dX7_next_116 : decode cX7_next 116 = .ok (.iload 7, 2) := by decide +kernel
theorem dX7_next_118 : decode cX7_next 118 = .ok (.goto 5, 3) := by decide +kernel
theorem dX7_next_121 : decode cX7_next 121 = .ok (.iload 5, 2) := by decide +kernel
theorem dX7_next_123 : decode cX7_next 123 = .ok (.istore 5, 2) := by decide +kernel
theorem dX7_next_125 : decode cX7_next 125 = .ok (.iinc 6 1, 3) := by decide +kernel
theorem dX7_next_128 : decode cX7_next 128 = .ok (.goto (-94), 3) := by decide +kernel
theorem dX7_next_131 : decode cX7_next 131 = .ok (.iload_n 2, 1) := by decide +kernel
theorem dX7_next_132 : decode cX7_next 132 = .ok (.bipush (-4), 2) := by decide +kernel
theorem dX7_next_134 : decode cX7_next 134 = .ok (.if_icmp .eq 9, 3) := by decide +kernel
theorem dX7_next_137 : decode cX7_next 137 = .ok (.iload 5, 2) := by decide +kernel
theorem dX7_next_139 : decode cX7_next 139 = .ok (.iload_n 3, 1) := by decide +kernel
theorem dX7_next_140 : decode cX7_next 140 = .ok (.if_icmp .ge 9, 3) := by decide +kernel
theorem dX7_next_143 : decode cX7_next 143 = .ok (.iload 4, 2) := by decide +kernel
theorem dX7_next_145 : decode cX7_next 145 = .ok (.istore_n 2, 1) := by decide +kernel
theorem dX7_next_146 : decode cX7_next 146 = .ok (.iload 5, 2) := by decide +kernel
theorem dX7_next_148 : decode cX7_next 148 = .ok (.istore_n 3, 1) := by decide +kernel
theorem dX7_next_149 : decode cX7_next 149 = .ok (.iinc 4 1, 3) := by decide +kernel
theorem dX7_next_152 : decode cX7_next 152 = .ok (.goto (-139), 3) := by decide +kernel
theorem dX7_next_155 : decode cX7_next 155 = .ok (.iload_n 2, 1) := by decide +kernel
theorem dX7_next_156 : decode cX7_next 156 = .ok (.ireturn, 1) := by decide +kernel
theorem dX7_seen_0 : decode cX7_seen 0 = .ok (.aload_n 0, 1) := by decide +kernel
theorem dX7_seen_1 : decode cX7_seen 1 = .ok (.iload_n 1, 1) := by decide +kernel
theorem dX7_seen_2 : decode cX7_seen 2 = .ok (.invokevirtual 209, 3) := by decide +kernel
theorem dX7_seen_5 : decode cX7_seen 5 = .ok (.ifCond .eq 19, 3) := by decide +kernel
theorem dX7_seen_8 : decode cX7_seen 8 = .ok (.aload_n 0, 1) := by decide +kernel
theorem dX7_seen_9 : decode cX7_seen 9 = .ok (.iload_n 2, 1) := by decide +kernel
theorem dX7_seen_10 : decode cX7_seen 10 = .ok (.invokevirtual 205, 3) := by decide +kernel
theorem dX7_seen_13 : decode cX7_seen 13 = .ok (.ifCond .eq 11, 3) := by decide +kernel
theorem dX7_seen_16 : decode cX7_seen 16 = .ok (.aload_n 0, 1) := by decide +kernel
theorem dX7_seen_17 : decode cX7_seen 17 = .ok (.iload_n 3, 1) := by decide +kernel
theorem dX7_seen_18 : decode cX7_seen 18 = .ok (.invokevirtual 205, 3) := by decide +kernel
theorem dX7_seen_21 : decode cX7_seen 21 = .ok (.ifCond .ne 5, 3) := by decide +kernel
theorem dX7_seen_24 : decode cX7_seen 24 = .ok (.iconst (-1), 1) := by decide +kernel
theorem dX7_seen_25 : decode cX7_seen 25 = .ok (.ireturn, 1) := by decide +kernel
theorem dX7_seen_26 : decode cX7_seen 26 = .ok (.aload_n 0, 1) := by decide +kernel
theorem dX7_seen_27 : decode cX7_seen 27 = .ok (.getfield 163, 3) := by decide +kernel
theorem dX7_seen_30 : decode cX7_seen 30 = .ok (.bipush 6, 2) := by decide +kernel
theorem dX7_seen_32 : decode cX7_seen 32 = .ok (.if_icmp .ne 6, 3) := by decide +kernel
theorem dX7_seen_35 : decode cX7_seen 35 = .ok (.bipush (-3), 2) := by decide +kernel
theorem dX7_seen_37 : decode cX7_seen 37 = .ok (.ireturn, 1) := by decide +kernel
theorem dX7_seen_38 : decode cX7_seen 38 = .ok (.aload_n 0, 1) := by decide +kernel
theorem dX7_seen_39 : decode cX7_seen 39 = .ok (.getfield 68, 3) := by decide +kernel
theorem dX7_seen_42 : decode cX7_seen 42 = .ok (.aload_n 0, 1) := by decide +kernel
theorem dX7_seen_43 : decode cX7_seen 43 = .ok (.getfield 163, 3) := by decide +kernel
theorem dX7_seen_46 : decode cX7_seen 46 = .ok (.iload_n 1, 1) := by decide +kernel
theorem dX7_seen_47 : decode cX7_seen 47 = .ok (.iastore, 1) := by decide +kernel
theorem dX7_seen_48 : decode cX7_seen 48 = .ok (.aload_n 0, 1) := by decide +kernel
theorem dX7_seen_49 : decode cX7_seen 49 = .ok (.getfield 71, 3) := by decide +kernel
theorem dX7_seen_52 : decode cX7_seen 52 = .ok (.aload_n 0, 1) := by decide +kernel
theorem dX7_seen_53 : decode cX7_seen 53 = .ok (.getfield 163, 3) := by decide +kernel
theorem dX7_seen_56 : decode cX7_seen 56 = .ok (.iload_n 2, 1) := by decide +kernel
theorem dX7_seen_57 : decode cX7_seen 57 = .ok (.iastore, 1) := by decide +kernel
theorem dX7_seen_58 : decode cX7_seen 58 = .ok (.aload_n 0, 1) := by decide +kernel
theorem dX7_seen_59 : decode cX7_seen 59 = .ok (.getfield 74, 3) := by decide +kernel
theorem dX7_seen_62 : decode cX7_seen 62 = .ok (.aload_n 0, 1) := by decide +kernel
theorem dX7_seen_63 : decode cX7_seen 63 = .ok (.getfield 163, 3) := by decide +kernel
theorem dX7_seen_66 : decode cX7_seen 66 = .ok (.iload_n 3, 1) := by decide +kernel
theorem dX7_seen_67 : decode cX7_seen 67 = .ok (.iastore, 1) := by decide +kernel
theorem dX7_seen_68 : decode cX7_seen 68 = .ok (.aload_n 0, 1) := by decide +kernel
theorem dX7_seen_69 : decode cX7_seen 69 = .ok (.dup, 1) := by decide +kernel
theorem dX7_seen_70 : decode cX7_seen 70 = .ok (.getfield 163, 3) := by decide +kernel
theorem dX7_seen_73 : decode cX7_seen 73 = .ok (.iconst 1, 1) := by decide +kernel
theorem dX7_seen_74 : decode cX7_seen 74 = .ok (.iadd, 1) := by decide +kernel
theorem dX7_seen_75 : decode cX7_seen 75 = .ok (.putfield 163, 3) := by decide +kernel
theorem dX7_seen_78 : decode cX7_seen 78 = .ok (.aload_n 0, 1) := by decide +kernel
theorem dX7_seen_79 : decode cX7_seen 79 = .ok (.getfield 163, 3) := by decide +kernel
theorem dX7_seen_82 : decode cX7_seen 82 = .ok (.ireturn, 1) := by decide +kernel
theorem dX7_kinds_0 : decode cX7_kinds 0 = .ok (.aload_n 0, 1) := by decide +kernel
theorem dX7_kinds_1 : decode cX7_kinds 1 = .ok (.iload_n 1, 1) := by decide +kernel
theorem dX7_kinds_2 : decode cX7_kinds 2 = .ok (.invokevirtual 209, 3) := by decide +kernel
theorem dX7_kinds_5 : decode cX7_kinds 5 = .ok (.ifCond .ne 5, 3) := by decide +kernel
theorem dX7_kinds_8 : decode cX7_kinds 8 = .ok (.iconst (-1), 1) := by decide +kernel
theorem dX7_kinds_9 : decode cX7_kinds 9 = .ok (.ireturn, 1) := by decide +kernel
theorem dX7_kinds_10 : decode cX7_kinds 10 = .ok (.iconst 0, 1) := by decide +kernel
theorem dX7_kinds_11 : decode cX7_kinds 11 = .ok (.istore_n 2, 1) := by decide +kernel
theorem dX7_kinds_12 : decode cX7_kinds 12 = .ok (.iconst 0, 1) := by decide +kernel
theorem dX7_kinds_13 : decode cX7_kinds 13 = .ok (.istore_n 3, 1) := by decide +kernel
theorem dX7_kinds_14 : decode cX7_kinds 14 = .ok (.iload_n 3, 1) := by decide +kernel
theorem dX7_kinds_15 : decode cX7_kinds 15 = .ok (.iconst 3, 1) := by decide +kernel
theorem dX7_kinds_16 : decode cX7_kinds 16 = .ok (.if_icmp .gt 95, 3) := by decide +kernel
theorem dX7_kinds_19 : decode cX7_kinds 19 = .ok (.iconst 1, 1) := by decide +kernel
theorem dX7_kinds_20 : decode cX7_kinds 20 = .ok (.istore 4, 2) := by decide +kernel
theorem dX7_kinds_22 : decode cX7_kinds 22 = .ok (.iconst 0, 1) := by decide +kernel
theorem dX7_kinds_23 : decode cX7_kinds 23 = .ok (.istore 5, 2) := by decide +kernel
theorem dX7_kinds_25 : decode cX7_kinds 25 = .ok (.iload 5, 2) := by decide +kernel
theorem dX7_kinds_27 : decode cX7_kinds 27 = .ok (.aload_n 0, 1) := by decide +kernel
theorem dX7_kinds_28 : decode cX7_kinds 28 = .ok (.getfield 163, 3) := by decide +kernel
theorem dX7_kinds_31 : decode cX7_kinds 31 = .ok (.if_icmp .ge 59, 3) := by decide +kernel
theorem dX7_kinds_34 : decode cX7_kinds 34 = .ok (.iload 4, 2) := by decide +kernel
theorem dX7_kinds_36 : decode cX7_kinds 36 = .ok (.ifCond .eq 45, 3) := by decide +kernel
theorem dX7_kinds_39 : decode cX7_kinds 39 = .ok (.aload_n 0, 1) := by decide +kernel
theorem dX7_kinds_40 : decode cX7_kinds 40 = .ok (.getfield 68, 3) := by decide +kernel
theorem dX7_kinds_43 : decode cX7_kinds 43 = .ok (.iload 5, 2) := by decide +kernel
theorem dX7_kinds_45 : decode cX7_kinds 45 = .ok (.iaload, 1) := by decide +kernel
theorem dX7_kinds_46 : decode cX7_kinds 46 = .ok (.iload_n 1, 1) := by decide +kernel
theorem dX7_kinds_47 : decode cX7_kinds 47 = .ok (.if_icmp .ne 30, 3) := by decide +kernel
theorem dX7_kinds_50 : decode cX7_kinds 50 = .ok (.aload_n 0, 1) := by decide +kernel
theorem dX7_kinds_51 : decode cX7_kinds 51 = .ok (.aload_n 0, 1) := by decide +kernel
theorem dX7_kinds_52 : decode cX7_kinds 52 = .ok (.getfield 41, 3) := by decide +kernel
theorem dX7_kinds_55 : decode cX7_kinds 55 = .ok (.iload_n 1, 1) := by decide +kernel
theorem dX7_kinds_56 : decode cX7_kinds 56 = .ok (.iload_n 3, 1) := by decide +kernel
theorem dX7_kinds_57 : decode cX7_kinds 57 = .ok (.aload_n 0, 1) := by decide +kernel
theorem dX7_kinds_58 : decode cX7_kinds 58 = .ok (.getfield 71, 3) := by decide +kernel
theorem dX7_kinds_61 : decode cX7_kinds 61 = .ok (.iload 5, 2) := by decide +kernel
theorem dX7_kinds_63 : decode cX7_kinds 63 = .ok (.iaload, 1) := by decide +kernel
theorem dX7_kinds_64 : decode cX7_kinds 64 = .ok (.invokevirtual 188, 3) := by decide +kernel
theorem dX7_kinds_67 : decode cX7_kinds 67 = .ok (.aload_n 0, 1) := by decide +kernel
theorem dX7_kinds_68 : decode cX7_kinds 68 = .ok (.getfield 74, 3) := by decide +kernel
theorem dX7_kinds_71 : decode cX7_kinds 71 = .ok (.iload 5, 2) := by decide +kernel
theorem dX7_kinds_73 : decode cX7_kinds 73 = .ok (.iaload, 1) := by decide +kernel
theorem dX7_kinds_74 : decode cX7_kinds 74 = .ok (.if_icmp .ne 7, 3) := by decide +kernel
theorem dX7_kinds_77 : decode cX7_kinds 77 = .ok (.iconst 1, 1) := by decide +kernel
theorem dX7_kinds_78 : decode cX7_kinds 78 = .ok (.goto 4, 3) := by decide +kernel
theorem dX7_kinds_81 : decode cX7_kinds 81 = .ok (.iconst 0, 1) := by decide +kernel
theorem dX7_kinds_82 : decode cX7_kinds 82 = .ok (.istore 4, 2) := by decide +kernel
theorem dX7_kinds_84 : decode cX7_kinds 84 = .ok (.iinc 5 1, 3) := by decide +kernel
theorem dX7_kinds_87 : decode cX7_kinds 87 = .ok (.goto (-62), 3) := by decide +kernel
theorem dX7_kinds_90 : decode cX7_kinds 90 = .ok (.iload_n 2, 1) := by decide +kernel
theorem dX7_kinds_91 : decode cX7_kinds 91 = .ok (.iload 4, 2) := by decide +kernel
theorem dX7_kinds_93 : decode cX7_kinds 93 = .ok (.ifCond .eq 9, 3) := by decide +kernel
theorem dX7_kinds_96 : decode cX7_kinds 96 = .ok (.iconst 1, 1) := by decide +kernel
theorem dX7_kinds_97 : decode cX7_kinds 97 = .ok (.iload_n 3, 1) := by decide +kernel
theorem dX7_kinds_98 : decode cX7_kinds 98 = .ok (.ishl, 1) := by decide +kernel
theorem dX7_kinds_99 : decode cX7_kinds 99 = .ok (.goto 4, 3) := by decide +kernel
theorem dX7_kinds_102 : decode cX7_kinds 102 = .ok (.iconst 0, 1) := by decide +kernel
theorem dX7_kinds_103 : decode cX7_kinds 103 = .ok (.ior, 1) := by decide +kernel
theorem dX7_kinds_104 : decode cX7_kinds 104 = .ok (.istore_n 2, 1) := by decide +kernel
theorem dX7_kinds_105 : decode cX7_kinds 105 = .ok (.iinc 3 1, 3) := by decide +kernel
theorem dX7_kinds_108 : decode cX7_kinds 108 = .ok (.goto (-94), 3) := by decide +kernel
theorem dX7_kinds_111 : decode cX7_kinds 111 = .ok (.iload_n 2, 1) := by decide +kernel
theorem dX7_kinds_112 : decode cX7_kinds 112 = .ok (.ireturn, 1) := by decide +kernel
theorem dX7_forget_0 : decode cX7_forget 0 = .ok (.aload_n 0, 1) := by decide +kernel
theorem dX7_forget_1 : decode cX7_forget 1 = .ok (.getfield 160, 3) := by decide +kernel
theorem dX7_forget_4 : decode cX7_forget 4 = .ok (.aload_n 0, 1) := by decide +kernel
theorem dX7_forget_5 : decode cX7_forget 5 = .ok (.getfield 163, 3) := by decide +kernel
theorem dX7_forget_8 : decode cX7_forget 8 = .ok (.iadd, 1) := by decide +kernel
theorem dX7_forget_9 : decode cX7_forget 9 = .ok (.istore_n 1, 1) := by decide +kernel
theorem dX7_forget_10 : decode cX7_forget 10 = .ok (.aload_n 0, 1) := by decide +kernel
theorem dX7_forget_11 : decode cX7_forget 11 = .ok (.iconst 0, 1) := by decide +kernel
theorem dX7_forget_12 : decode cX7_forget 12 = .ok (.putfield 160, 3) := by decide +kernel
theorem dX7_forget_15 : decode cX7_forget 15 = .ok (.aload_n 0, 1) := by decide +kernel
theorem dX7_forget_16 : decode cX7_forget 16 = .ok (.iconst 0, 1) := by decide +kernel
theorem dX7_forget_17 : decode cX7_forget 17 = .ok (.putfield 163, 3) := by decide +kernel
theorem dX7_forget_20 : decode cX7_forget 20 = .ok (.iload_n 1, 1) := by decide +kernel
theorem dX7_forget_21 : decode cX7_forget 21 = .ok (.ireturn, 1) := by decide +kernel
theorem dX7_likely_0 : decode cX7_likely 0 = .ok (.aload_n 0, 1) := by decide +kernel
theorem dX7_likely_1 : decode cX7_likely 1 = .ok (.iload_n 1, 1) := by decide +kernel
theorem dX7_likely_2 : decode cX7_likely 2 = .ok (.invokevirtual 212, 3) := by decide +kernel
theorem dX7_likely_5 : decode cX7_likely 5 = .ok (.ifCond .eq 22, 3) := by decide +kernel
theorem dX7_likely_8 : decode cX7_likely 8 = .ok (.iload_n 2, 1) := by decide +kernel
theorem dX7_likely_9 : decode cX7_likely 9 = .ok (.iconst 0, 1) := by decide +kernel
theorem dX7_likely_10 : decode cX7_likely 10 = .ok (.bipush 10, 2) := by decide +kernel
theorem dX7_likely_12 : decode cX7_likely 12 = .ok (.invokestatic 83, 3) := by decide +kernel
theorem dX7_likely_15 : decode cX7_likely 15 = .ok (.ifCond .eq 12, 3) := by decide +kernel
theorem dX7_likely_18 : decode cX7_likely 18 = .ok (.iload_n 3, 1) := by decide +kernel
theorem dX7_likely_19 : decode cX7_likely 19 = .ok (.iconst 0, 1) := by decide +kernel
theorem dX7_likely_20 : decode cX7_likely 20 = .ok (.iconst 1, 1) := by decide +kernel
theorem dX7_likely_21 : decode cX7_likely 21 = .ok (.invokestatic 83, 3) := by decide +kernel
theorem dX7_likely_24 : decode cX7_likely 24 = .ok (.ifCond .ne 5, 3) := by decide +kernel
theorem dX7_likely_27 : decode cX7_likely 27 = .ok (.iconst (-1), 1) := by decide +kernel
theorem dX7_likely_28 : decode cX7_likely 28 = .ok (.ireturn, 1) := by decide +kernel
theorem dX7_likely_29 : decode cX7_likely 29 = .ok (.iconst 0, 1) := by decide +kernel
theorem dX7_likely_30 : decode cX7_likely 30 = .ok (.istore 4, 2) := by decide +kernel
theorem dX7_likely_32 : decode cX7_likely 32 = .ok (.iconst 1, 1) := by decide +kernel
theorem dX7_likely_33 : decode cX7_likely 33 = .ok (.istore 5, 2) := by decide +kernel
theorem dX7_likely_35 : decode cX7_likely 35 = .ok (.iconst 0, 1) := by decide +kernel
theorem dX7_likely_36 : decode cX7_likely 36 = .ok (.istore 6, 2) := by decide +kernel
theorem dX7_likely_38 : decode cX7_likely 38 = .ok (.iload 6, 2) := by decide +kernel
theorem dX7_likely_40 : decode cX7_likely 40 = .ok (.iconst 1, 1) := by decide +kernel
theorem dX7_likely_41 : decode cX7_likely 41 = .ok (.aload_n 0, 1) := by decide +kernel
theorem dX7_likely_42 : decode cX7_likely 42 = .ok (.getfield 17, 3) := by decide +kernel
theorem dX7_likely_45 : decode cX7_likely 45 = .ok (.iconst 0, 1) := by decide +kernel
theorem dX7_likely_46 : decode cX7_likely 46 = .ok (.iaload, 1) := by decide +kernel
theorem dX7_likely_47 : decode cX7_likely 47 = .ok (.ishl, 1) := by decide +kernel
theorem dX7_likely_48 : decode cX7_likely 48 = .ok (.if_icmp .ge 125, 3) := by decide +kernel
theorem dX7_likely_51 : decode cX7_likely 51 = .ok (.iconst 1, 1) := by decide +kernel
theorem dX7_likely_52 : decode cX7_likely 52 = .ok (.istore 7, 2) := by decide +kernel
theorem dX7_likely_54 : decode cX7_likely 54 = .ok (.iconst 0, 1) := by decide +kernel
theorem dX7_likely_55 : decode cX7_likely 55 = .ok (.istore 8, 2) := by decide +kernel
theorem dX7_likely_57 : decode cX7_likely 57 = .ok (.iload 8, 2) := by decide +kernel
theorem dX7_likely_59 : decode cX7_likely 59 = .ok (.aload_n 0, 1) := by decide +kernel
theorem dX7_likely_60 : decode cX7_likely 60 = .ok (.getfield 17, 3) := by decide +kernel
theorem dX7_likely_63 : decode cX7_likely 63 = .ok (.iconst 0, 1) := by decide +kernel
theorem dX7_likely_64 : decode cX7_likely 64 = .ok (.iaload, 1) := by decide +kernel
theorem dX7_likely_65 : decode cX7_likely 65 = .ok (.if_icmp .ge 65, 3) := by decide +kernel
theorem dX7_likely_68 : decode cX7_likely 68 = .ok (.iload 7, 2) := by decide +kernel
theorem dX7_likely_70 : decode cX7_likely 70 = .ok (.aload_n 0, 1) := by decide +kernel
theorem dX7_likely_71 : decode cX7_likely 71 = .ok (.getfield 41, 3) := by decide +kernel
theorem dX7_likely_74 : decode cX7_likely 74 = .ok (.bipush 71, 2) := by decide +kernel
theorem dX7_likely_76 : decode cX7_likely 76 = .ok (.iload 8, 2) := by decide +kernel
theorem dX7_likely_78 : decode cX7_likely 78 = .ok (.iadd, 1) := by decide +kernel
theorem dX7_likely_79 : decode cX7_likely 79 = .ok (.iaload, 1) := by decide +kernel
theorem dX7_likely_80 : decode cX7_likely 80 = .ok (.bipush (-4), 2) := by decide +kernel
theorem dX7_likely_82 : decode cX7_likely 82 = .ok (.if_icmp .ne 21, 3) := by decide +kernel
theorem dX7_likely_85 : decode cX7_likely 85 = .ok (.iload 6, 2) := by decide +kernel
theorem dX7_likely_87 : decode cX7_likely 87 = .ok (.iload 8, 2) := by decide +kernel
theorem dX7_likely_89 : decode cX7_likely 89 = .ok (.invokestatic 174, 3) := by decide +kernel
theorem dX7_likely_92 : decode cX7_likely 92 = .ok (.ifCond .eq 7, 3) := by decide +kernel
theorem dX7_likely_95 : decode cX7_likely 95 = .ok (.iconst 0, 1) := by decide +kernel
theorem dX7_likely_96 : decode cX7_likely 96 = .ok (.goto 25, 3) := by decide +kernel
theorem dX7_likely_99 : decode cX7_likely 99 = .ok (.iconst 1, 1) := by decide +kernel
theorem dX7_likely_100 : decode cX7_likely 100 = .ok (.goto 21, 3) := by decide +kernel
theorem dX7_likely_103 : decode cX7_likely 103 = .ok (.iload 6, 2) := by decide +kernel
theorem dX7_likely_105 : decode cX7_likely 105 = .ok (.iload 8, 2) := by decide +kernel
theorem dX7_likely_107 : decode cX7_likely 107 = .ok (.invokestatic 174, 3) := by decide +kernel
theorem dX7_likely_110 : decode cX7_likely 110 = .ok (.ifCond .eq 7, 3) := by decide +kernel
theorem dX7_likely_113 : decode cX7_likely 113 = .ok (.iload_n 2, 1) := by decide +kernel
theorem dX7_likely_114 : decode cX7_likely 114 = .ok (.goto 7, 3) := by decide +kernel
theorem dX7_likely_117 : decode cX7_likely 117 = .ok (.bipush 10, 2) := by decide +kernel
theorem dX7_likely_119 : decode cX7_likely 119 = .ok (.iload_n 2, 1) := by decide +kernel
theorem dX7_likely_120 : decode cX7_likely 120 = .ok (.isub, 1) := by decide +kernel
theorem dX7_likely_121 : decode cX7_likely 121 = .ok (.imul, 1) := by decide +kernel
theorem dX7_likely_122 : decode cX7_likely 122 = .ok (.istore 7, 2) := by decide +kernel
theorem dX7_likely_124 : decode cX7_likely 124 = .ok (.iinc 8 1, 3) := by decide +kernel
theorem dX7_likely_127 : decode cX7_likely 127 = .ok (.goto (-70), 3) := by decide +kernel
theorem dX7_likely_130 : decode cX7_likely 130 = .ok (.iload 7, 2) := by decide +kernel
theorem dX7_likely_132 : decode cX7_likely 132 = .ok (.ifCond .le 35, 3) := by decide +kernel
theorem dX7_likely_135 : decode cX7_likely 135 = .ok (.aload_n 0, 1) := by decide +kernel
theorem dX7_likely_136 : decode cX7_likely 136 = .ok (.iload 6, 2) := by decide +kernel
theorem dX7_likely_138 : decode cX7_likely 138 = .ok (.putfield 171, 3) := by decide +kernel
theorem dX7_likely_141 : decode cX7_likely 141 = .ok (.iload 4, 2) := by decide +kernel
theorem dX7_likely_143 : decode cX7_likely 143 = .ok (.aload_n 0, 1) := by decide +kernel
theorem dX7_likely_144 : decode cX7_likely 144 = .ok (.iload_n 1, 1) := by decide +kernel
theorem dX7_likely_145 : decode cX7_likely 145 = .ok (.invokevirtual 241, 3) := by decide +kernel
theorem dX7_likely_148 : decode cX7_likely 148 = .ok (.bipush (-4), 2) := by decide +kernel
theorem dX7_likely_150 : decode cX7_likely 150 = .ok (.if_icmp .ne 7, 3) := by decide +kernel
theorem dX7_likely_153 : decode cX7_likely 153 = .ok (.iconst 0, 1) := by decide +kernel
theorem dX7_likely_154 : decode cX7_likely 154 = .ok (.goto 5, 3) := by decide +kernel
theorem dX7_likely_157 : decode cX7_likely 157 = .ok (.iload 7, 2) := by decide +kernel
theorem dX7_likely_159 : decode cX7_likely 159 = .ok (.iadd, 1) := by decide +kernel
theorem dX7_likely_160 : decode cX7_likely 160 = .ok (.istore 4, 2) := by decide +kernel
theorem dX7_likely_162 : decode cX7_likely 162 = .ok (.aload_n 0, 1) := by decide +kernel
theorem dX7_likely_163 : decode cX7_likely 163 = .ok (.iconst 0, 1) := by decide +kernel
theorem dX7_likely_164 : decode cX7_likely 164 = .ok (.putfield 171, 3) := by decide +kernel
theorem dX7_likely_167 : decode cX7_likely 167 = .ok (.iinc 6 1, 3) := by decide +kernel
theorem dX7_likely_170 : decode cX7_likely 170 = .ok (.goto (-132), 3) := by decide +kernel
theorem dX7_likely_173 : decode cX7_likely 173 = .ok (.iconst 0, 1) := by decide +kernel
theorem dX7_likely_174 : decode cX7_likely 174 = .ok (.istore 6, 2) := by decide +kernel
theorem dX7_likely_176 : decode cX7_likely 176 = .ok (.iload 6, 2) := by decide +kernel
theorem dX7_likely_178 : decode cX7_likely 178 = .ok (.aload_n 0, 1) := by decide +kernel
theorem dX7_likely_179 : decode cX7_likely 179 = .ok (.getfield 17, 3) := by decide +kernel
theorem dX7_likely_182 : decode cX7_likely 182 = .ok (.iconst 0, 1) := by decide +kernel
theorem dX7_likely_183 : decode cX7_likely 183 = .ok (.iaload, 1) := by decide +kernel
theorem dX7_likely_184 : decode cX7_likely 184 = .ok (.if_icmp .ge 35, 3) := by decide +kernel
theorem dX7_likely_187 : decode cX7_likely 187 = .ok (.iload 5, 2) := by decide +kernel
theorem dX7_likely_189 : decode cX7_likely 189 = .ok (.aload_n 0, 1) := by decide +kernel
theorem dX7_likely_190 : decode cX7_likely 190 = .ok (.getfield 41, 3) := by decide +kernel
theorem dX7_likely_193 : decode cX7_likely 193 = .ok (.bipush 71, 2) := by decide +kernel
theorem dX7_likely_195 : decode cX7_likely 195 = .ok (.iload 6, 2) := by decide +kernel
theorem dX7_likely_197 : decode cX7_likely 197 = .ok (.iadd, 1) := by decide +kernel
theorem dX7_likely_198 : decode cX7_likely 198 = .ok (.iaload, 1) := by decide +kernel
theorem dX7_likely_199 : decode cX7_likely 199 = .ok (.bipush (-4), 2) := by decide +kernel
theorem dX7_likely_201 : decode cX7_likely 201 = .ok (.if_icmp .ne 7, 3) := by decide +kernel
theorem dX7_likely_204 : decode cX7_likely 204 = .ok (.iconst 1, 1) := by decide +kernel
theorem dX7_likely_205 : decode cX7_likely 205 = .ok (.goto 5, 3) := by decide +kernel
theorem dX7_likely_208 : decode cX7_likely 208 = .ok (.bipush 10, 2) := by decide +kernel
theorem dX7_likely_210 : decode cX7_likely 210 = .ok (.imul, 1) := by decide +kernel
theorem dX7_likely_211 : decode cX7_likely 211 = .ok (.istore 5, 2) := by decide +kernel
theorem dX7_likely_213 : decode cX7_likely 213 = .ok (.iinc 6 1, 3) := by decide +kernel
theorem dX7_likely_216 : decode cX7_likely 216 = .ok (.goto (-40), 3) := by decide +kernel
theorem dX7_likely_219 : decode cX7_likely 219 = .ok (.iload 4, 2) := by decide +kernel
theorem dX7_likely_221 : decode cX7_likely 221 = .ok (.istore 6, 2) := by decide +kernel
theorem dX7_likely_223 : decode cX7_likely 223 = .ok (.iload 5, 2) := by decide +kernel
theorem dX7_likely_225 : decode cX7_likely 225 = .ok (.istore 7, 2) := by decide +kernel
theorem dX7_likely_227 : decode cX7_likely 227 = .ok (.iload 7, 2) := by decide +kernel
theorem dX7_likely_229 : decode cX7_likely 229 = .ok (.ifCond .eq 21, 3) := by decide +kernel
theorem dX7_likely_232 : decode cX7_likely 232 = .ok (.iload 6, 2) := by decide +kernel
theorem dX7_likely_234 : decode cX7_likely 234 = .ok (.iload 7, 2) := by decide +kernel
theorem dX7_likely_236 : decode cX7_likely 236 = .ok (.irem, 1) := by decide +kernel
theorem dX7_likely_237 : decode cX7_likely 237 = .ok (.istore 8, 2) := by decide +kernel
theorem dX7_likely_239 : decode cX7_likely 239 = .ok (.iload 7, 2) := by decide +kernel
theorem dX7_likely_241 : decode cX7_likely 241 = .ok (.istore 6, 2) := by decide +kernel
theorem dX7_likely_243 : decode cX7_likely 243 = .ok (.iload 8, 2) := by decide +kernel
theorem dX7_likely_245 : decode cX7_likely 245 = .ok (.istore 7, 2) := by decide +kernel
theorem dX7_likely_247 : decode cX7_likely 247 = .ok (.goto (-20), 3) := by decide +kernel
theorem dX7_likely_250 : decode cX7_likely 250 = .ok (.iload_n 3, 1) := by decide +kernel
theorem dX7_likely_251 : decode cX7_likely 251 = .ok (.ifCond .ne 11, 3) := by decide +kernel
theorem dX7_likely_254 : decode cX7_likely 254 = .ok (.iload 4, 2) := by decide +kernel
theorem dX7_likely_256 : decode cX7_likely 256 = .ok (.iload 6, 2) := by decide +kernel
theorem dX7_likely_258 : decode cX7_likely 258 = .ok (.idiv, 1) := by decide +kernel
theorem dX7_likely_259 : decode cX7_likely 259 = .ok (.goto 8, 3) := by decide +kernel
theorem dX7_likely_262 : decode cX7_likely 262 = .ok (.iload 5, 2) := by decide +kernel
theorem dX7_likely_264 : decode cX7_likely 264 = .ok (.iload 6, 2) := by decide +kernel
theorem dX7_likely_266 : decode cX7_likely 266 = .ok (.idiv, 1) := by decide +kernel
theorem dX7_likely_267 : decode cX7_likely 267 = .ok (.ireturn, 1) := by decide +kernel
theorem dX7_turn_0 : decode cX7_turn 0 = .ok (.iload_n 1, 1) := by decide +kernel
theorem dX7_turn_1 : decode cX7_turn 1 = .ok (.aload_n 0, 1) := by decide +kernel
theorem dX7_turn_2 : decode cX7_turn 2 = .ok (.getfield 17, 3) := by decide +kernel
theorem dX7_turn_5 : decode cX7_turn 5 = .ok (.iconst 0, 1) := by decide +kernel
theorem dX7_turn_6 : decode cX7_turn 6 = .ok (.iaload, 1) := by decide +kernel
theorem dX7_turn_7 : decode cX7_turn 7 = .ok (.irem, 1) := by decide +kernel
theorem dX7_turn_8 : decode cX7_turn 8 = .ok (.istore_n 2, 1) := by decide +kernel
theorem dX7_turn_9 : decode cX7_turn 9 = .ok (.iload_n 1, 1) := by decide +kernel
theorem dX7_turn_10 : decode cX7_turn 10 = .ok (.bipush 8, 2) := by decide +kernel
theorem dX7_turn_12 : decode cX7_turn 12 = .ok (.idiv, 1) := by decide +kernel
theorem dX7_turn_13 : decode cX7_turn 13 = .ok (.aload_n 0, 1) := by decide +kernel
theorem dX7_turn_14 : decode cX7_turn 14 = .ok (.getfield 13, 3) := by decide +kernel
theorem dX7_turn_17 : decode cX7_turn 17 = .ok (.iconst 0, 1) := by decide +kernel
theorem dX7_turn_18 : decode cX7_turn 18 = .ok (.iaload, 1) := by decide +kernel
theorem dX7_turn_19 : decode cX7_turn 19 = .ok (.irem, 1) := by decide +kernel
theorem dX7_turn_20 : decode cX7_turn 20 = .ok (.istore_n 3, 1) := by decide +kernel
theorem dX7_turn_21 : decode cX7_turn 21 = .ok (.iload_n 3, 1) := by decide +kernel
theorem dX7_turn_22 : decode cX7_turn 22 = .ok (.iconst 1, 1) := by decide +kernel
theorem dX7_turn_23 : decode cX7_turn 23 = .ok (.iadd, 1) := by decide +kernel
theorem dX7_turn_24 : decode cX7_turn 24 = .ok (.aload_n 0, 1) := by decide +kernel
theorem dX7_turn_25 : decode cX7_turn 25 = .ok (.getfield 13, 3) := by decide +kernel
theorem dX7_turn_28 : decode cX7_turn 28 = .ok (.iconst 0, 1) := by decide +kernel
theorem dX7_turn_29 : decode cX7_turn 29 = .ok (.iaload, 1) := by decide +kernel
theorem dX7_turn_30 : decode cX7_turn 30 = .ok (.irem, 1) := by decide +kernel
theorem dX7_turn_31 : decode cX7_turn 31 = .ok (.istore 4, 2) := by decide +kernel
theorem dX7_turn_33 : decode cX7_turn 33 = .ok (.aload_n 0, 1) := by decide +kernel
theorem dX7_turn_34 : decode cX7_turn 34 = .ok (.getfield 50, 3) := by decide +kernel
theorem dX7_turn_37 : decode cX7_turn 37 = .ok (.bipush 71, 2) := by decide +kernel
theorem dX7_turn_39 : decode cX7_turn 39 = .ok (.iload_n 2, 1) := by decide +kernel
theorem dX7_turn_40 : decode cX7_turn 40 = .ok (.iadd, 1) := by decide +kernel
theorem dX7_turn_41 : decode cX7_turn 41 = .ok (.iaload, 1) := by decide +kernel
theorem dX7_turn_42 : decode cX7_turn 42 = .ok (.bipush (-4), 2) := by decide +kernel
theorem dX7_turn_44 : decode cX7_turn 44 = .ok (.if_icmp .eq 7, 3) := by decide +kernel
theorem dX7_turn_47 : decode cX7_turn 47 = .ok (.iconst 1, 1) := by decide +kernel
theorem dX7_turn_48 : decode cX7_turn 48 = .ok (.goto 4, 3) := by decide +kernel
theorem dX7_turn_51 : decode cX7_turn 51 = .ok (.iconst 0, 1) := by decide +kernel
theorem dX7_turn_52 : decode cX7_turn 52 = .ok (.istore 5, 2) := by decide +kernel
theorem dX7_turn_54 : decode cX7_turn 54 = .ok (.iload_n 1, 1) := by decide +kernel
theorem dX7_turn_55 : decode cX7_turn 55 = .ok (.bipush 64, 2) := by decide +kernel
theorem dX7_turn_57 : decode cX7_turn 57 = .ok (.idiv, 1) := by decide +kernel
theorem dX7_turn_58 : decode cX7_turn 58 = .ok (.bipush 6, 2) := by decide +kernel
theorem dX7_turn_60 : decode cX7_turn 60 = .ok (.irem, 1) := by decide +kernel
theorem dX7_turn_61 : decode cX7_turn 61 = .ok (.tableswitch 131 0 3 #[31, 56, 74, 86], 31) := by decide +kernel
theorem dX7_turn_92 : decode cX7_turn 92 = .ok (.iload 5, 2) := by decide +kernel
theorem dX7_turn_94 : decode cX7_turn 94 = .ok (.ifCond .eq 98, 3) := by decide +kernel
theorem dX7_turn_97 : decode cX7_turn 97 = .ok (.aload_n 0, 1) := by decide +kernel
theorem dX7_turn_98 : decode cX7_turn 98 = .ok (.aload_n 0, 1) := by decide +kernel
theorem dX7_turn_99 : decode cX7_turn 99 = .ok (.getfield 50, 3) := by decide +kernel
theorem dX7_turn_102 : decode cX7_turn 102 = .ok (.invokevirtual 146, 3) := by decide +kernel
theorem dX7_turn_105 : decode cX7_turn 105 = .ok (.aload_n 0, 1) := by decide +kernel
theorem dX7_turn_106 : decode cX7_turn 106 = .ok (.aload_n 0, 1) := by decide +kernel
theorem dX7_turn_107 : decode cX7_turn 107 = .ok (.getfield 50, 3) := by decide +kernel
theorem dX7_turn_110 : decode cX7_turn 110 = .ok (.iload_n 2, 1) := by decide +kernel
theorem dX7_turn_111 : decode cX7_turn 111 = .ok (.invokevirtual 150, 3) := by decide +kernel
theorem dX7_turn_114 : decode cX7_turn 114 = .ok (.goto 78, 3) := by decide +kernel
theorem dX7_turn_117 : decode cX7_turn 117 = .ok (.iload 5, 2) := by decide +kernel
theorem dX7_turn_119 : decode cX7_turn 119 = .ok (.ifCond .eq 73, 3) := by decide +kernel
theorem dX7_turn_122 : decode cX7_turn 122 = .ok (.aload_n 0, 1) := by decide +kernel
theorem dX7_turn_123 : decode cX7_turn 123 = .ok (.getfield 50, 3) := by decide +kernel
theorem dX7_turn_126 : decode cX7_turn 126 = .ok (.bipush 71, 2) := by decide +kernel
theorem dX7_turn_128 : decode cX7_turn 128 = .ok (.iload_n 2, 1) := by decide +kernel
theorem dX7_turn_129 : decode cX7_turn 129 = .ok (.iadd, 1) := by decide +kernel
theorem dX7_turn_130 : decode cX7_turn 130 = .ok (.iload_n 3, 1) := by decide +kernel
theorem dX7_turn_131 : decode cX7_turn 131 = .ok (.iastore, 1) := by decide +kernel
theorem dX7_turn_132 : decode cX7_turn 132 = .ok (.goto 60, 3) := by decide +kernel
theorem dX7_turn_135 : decode cX7_turn 135 = .ok (.aload_n 0, 1) := by decide +kernel
theorem dX7_turn_136 : decode cX7_turn 136 = .ok (.aload_n 0, 1) := by decide +kernel
theorem dX7_turn_137 : decode cX7_turn 137 = .ok (.getfield 50, 3) := by decide +kernel
theorem dX7_turn_140 : decode cX7_turn 140 = .ok (.invokevirtual 218, 3) := by decide +kernel
theorem dX7_turn_143 : decode cX7_turn 143 = .ok (.pop, 1) := by decide +kernel
theorem dX7_turn_144 : decode cX7_turn 144 = .ok (.goto 48, 3) := by decide +kernel
theorem dX7_turn_147 : decode cX7_turn 147 = .ok (.aload_n 0, 1) := by decide +kernel
theorem dX7_turn_148 : decode cX7_turn 148 = .ok (.getfield 50, 3) := by decide +kernel
theorem dX7_turn_151 : decode cX7_turn 151 = .ok (.iload_n 3, 1) := by decide +kernel
theorem dX7_turn_152 : decode cX7_turn 152 = .ok (.iload 4, 2) := by decide +kernel
theorem dX7_turn_154 : decode cX7_turn 154 = .ok (.aload_n 0, 1) := by decide +kernel
theorem dX7_turn_155 : decode cX7_turn 155 = .ok (.getfield 50, 3) := by decide +kernel
theorem dX7_turn_158 : decode cX7_turn 158 = .ok (.bipush 7, 2) := by decide +kernel
theorem dX7_turn_160 : decode cX7_turn 160 = .ok (.bipush 8, 2) := by decide +kernel
theorem dX7_turn_162 : decode cX7_turn 162 = .ok (.iload_n 3, 1) := by decide +kernel
theorem dX7_turn_163 : decode cX7_turn 163 = .ok (.imul, 1) := by decide +kernel
theorem dX7_turn_164 : decode cX7_turn 164 = .ok (.iadd, 1) := by decide +kernel
theorem dX7_turn_165 : decode cX7_turn 165 = .ok (.iload 4, 2) := by decide +kernel
theorem dX7_turn_167 : decode cX7_turn 167 = .ok (.iadd, 1) := by decide +kernel
theorem dX7_turn_168 : decode cX7_turn 168 = .ok (.iaload, 1) := by decide +kernel
theorem dX7_turn_169 : decode cX7_turn 169 = .ok (.ifCond .le 7, 3) := by decide +kernel
theorem dX7_turn_172 : decode cX7_turn 172 = .ok (.iconst 0, 1) := by decide +kernel
theorem dX7_turn_173 : decode cX7_turn 173 = .ok (.goto 13, 3) := by decide +kernel
theorem dX7_turn_176 : decode cX7_turn 176 = .ok (.iload_n 1, 1) := by decide +kernel
theorem dX7_turn_177 : decode cX7_turn 177 = .ok (.sipush 512, 3) := by decide +kernel
theorem dX7_turn_180 : decode cX7_turn 180 = .ok (.idiv, 1) := by decide +kernel
theorem dX7_turn_181 : decode cX7_turn 181 = .ok (.bipush 9, 2) := by decide +kernel
theorem dX7_turn_183 : decode cX7_turn 183 = .ok (.irem, 1) := by decide +kernel
theorem dX7_turn_184 : decode cX7_turn 184 = .ok (.iconst 1, 1) := by decide +kernel
theorem dX7_turn_185 : decode cX7_turn 185 = .ok (.iadd, 1) := by decide +kernel
theorem dX7_turn_186 : decode cX7_turn 186 = .ok (.invokestatic 221, 3) := by decide +kernel
theorem dX7_turn_189 : decode cX7_turn 189 = .ok (.goto 3, 3) := by decide +kernel
theorem dX7_turn_192 : decode cX7_turn 192 = .ok (.return_, 1) := by decide +kernel
theorem dX7_century_0 : decode cX7_century 0 = .ok (.iload_n 1, 1) := by decide +kernel
theorem dX7_century_1 : decode cX7_century 1 = .ok (.iconst 0, 1) := by decide +kernel
theorem dX7_century_2 : decode cX7_century 2 = .ok (.sipush 9999, 3) := by decide +kernel
theorem dX7_century_5 : decode cX7_century 5 = .ok (.invokestatic 83, 3) := by decide +kernel
theorem dX7_century_8 : decode cX7_century 8 = .ok (.ifCond .eq 22, 3) := by decide +kernel
theorem dX7_century_11 : decode cX7_century 11 = .ok (.iload_n 2, 1) := by decide +kernel
theorem dX7_century_12 : decode cX7_century 12 = .ok (.iconst 1, 1) := by decide +kernel
theorem dX7_century_13 : decode cX7_century 13 = .ok (.bipush 60, 2) := by decide +kernel
theorem dX7_century_15 : decode cX7_century 15 = .ok (.invokestatic 83, 3) := by decide +kernel
theorem dX7_century_18 : decode cX7_century 18 = .ok (.ifCond .eq 12, 3) := by decide +kernel
theorem dX7_century_21 : decode cX7_century 21 = .ok (.iload_n 3, 1) := by decide +kernel
theorem dX7_century_22 : decode cX7_century 22 = .ok (.iconst 0, 1) := by decide +kernel
theorem dX7_century_23 : decode cX7_century 23 = .ok (.iconst 2, 1) := by decide +kernel
theorem dX7_century_24 : decode cX7_century 24 = .ok (.invokestatic 83, 3) := by decide +kernel
theorem dX7_century_27 : decode cX7_century 27 = .ok (.ifCond .ne 5, 3) := by decide +kernel
theorem dX7_century_30 : decode cX7_century 30 = .ok (.iconst (-1), 1) := by decide +kernel
theorem dX7_century_31 : decode cX7_century 31 = .ok (.ireturn, 1) := by decide +kernel
theorem dX7_century_32 : decode cX7_century 32 = .ok (.aload_n 0, 1) := by decide +kernel
theorem dX7_century_33 : decode cX7_century 33 = .ok (.invokevirtual 225, 3) := by decide +kernel
theorem dX7_century_36 : decode cX7_century 36 = .ok (.iconst 0, 1) := by decide +kernel
theorem dX7_century_37 : decode cX7_century 37 = .ok (.istore 4, 2) := by decide +kernel
theorem dX7_century_39 : decode cX7_century 39 = .ok (.iload 4, 2) := by decide +kernel
theorem dX7_century_41 : decode cX7_century 41 = .ok (.iload_n 2, 1) := by decide +kernel
theorem dX7_century_42 : decode cX7_century 42 = .ok (.if_icmp .ge 51, 3) := by decide +kernel
theorem dX7_century_45 : decode cX7_century 45 = .ok (.ldc2_w 244, 3) := by decide +kernel
theorem dX7_century_48 : decode cX7_century 48 = .ok (.iload_n 1, 1) := by decide +kernel
theorem dX7_century_49 : decode cX7_century 49 = .ok (.i2l, 1) := by decide +kernel
theorem dX7_century_50 : decode cX7_century 50 = .ok (.lmul, 1) := by decide +kernel
theorem dX7_century_51 : decode cX7_century 51 = .ok (.ldc2_w 246, 3) := by decide +kernel
theorem dX7_century_54 : decode cX7_century 54 = .ok (.iload 4, 2) := by decide +kernel
theorem dX7_century_56 : decode cX7_century 56 = .ok (.i2l, 1) := by decide +kernel
theorem dX7_century_57 : decode cX7_century 57 = .ok (.lmul, 1) := by decide +kernel
theorem dX7_century_58 : decode cX7_century 58 = .ok (.ladd, 1) := by decide +kernel
theorem dX7_century_59 : decode cX7_century 59 = .ok (.lconst 1, 1) := by decide +kernel
theorem dX7_century_60 : decode cX7_century 60 = .ok (.ladd, 1) := by decide +kernel
theorem dX7_century_61 : decode cX7_century 61 = .ok (.lstore 5, 2) := by decide +kernel
theorem dX7_century_63 : decode cX7_century 63 = .ok (.aload_n 0, 1) := by decide +kernel
theorem dX7_century_64 : decode cX7_century 64 = .ok (.lload 5, 2) := by decide +kernel
theorem dX7_century_66 : decode cX7_century 66 = .ok (.lload 5, 2) := by decide +kernel
theorem dX7_century_68 : decode cX7_century 68 = .ok (.lmul, 1) := by decide +kernel
theorem dX7_century_69 : decode cX7_century 69 = .ok (.ldc2_w 248, 3) := by decide +kernel
theorem dX7_century_72 : decode cX7_century 72 = .ok (.lrem, 1) := by decide +kernel
theorem dX7_century_73 : decode cX7_century 73 = .ok (.l2i, 1) := by decide +kernel
theorem dX7_century_74 : decode cX7_century 74 = .ok (.iconst 2, 1) := by decide +kernel
theorem dX7_century_75 : decode cX7_century 75 = .ok (.idiv, 1) := by decide +kernel
theorem dX7_century_76 : decode cX7_century 76 = .ok (.invokevirtual 250, 3) := by decide +kernel
theorem dX7_century_79 : decode cX7_century 79 = .ok (.aload_n 0, 1) := by decide +kernel
theorem dX7_century_80 : decode cX7_century 80 = .ok (.aload_n 0, 1) := by decide +kernel
theorem dX7_century_81 : decode cX7_century 81 = .ok (.getfield 50, 3) := by decide +kernel
theorem dX7_century_84 : decode cX7_century 84 = .ok (.invokevirtual 198, 3) := by decide +kernel
theorem dX7_century_87 : decode cX7_century 87 = .ok (.iinc 4 1, 3) := by decide +kernel
theorem dX7_century_90 : decode cX7_century 90 = .ok (.goto (-51), 3) := by decide +kernel
theorem dX7_century_93 : decode cX7_century 93 = .ok (.iload_n 3, 1) := by decide +kernel
theorem dX7_century_94 : decode cX7_century 94 = .ok (.ifCond .ne 14, 3) := by decide +kernel
theorem dX7_century_97 : decode cX7_century 97 = .ok (.aload_n 0, 1) := by decide +kernel
theorem dX7_century_98 : decode cX7_century 98 = .ok (.aload_n 0, 1) := by decide +kernel
theorem dX7_century_99 : decode cX7_century 99 = .ok (.getfield 50, 3) := by decide +kernel
theorem dX7_century_102 : decode cX7_century 102 = .ok (.invokevirtual 201, 3) := by decide +kernel
theorem dX7_century_105 : decode cX7_century 105 = .ok (.goto 27, 3) := by decide +kernel
theorem dX7_century_108 : decode cX7_century 108 = .ok (.iload_n 3, 1) := by decide +kernel
theorem dX7_century_109 : decode cX7_century 109 = .ok (.iconst 1, 1) := by decide +kernel
theorem dX7_century_110 : decode cX7_century 110 = .ok (.if_icmp .ne 14, 3) := by decide +kernel
theorem dX7_century_113 : decode cX7_century 113 = .ok (.aload_n 0, 1) := by decide +kernel
theorem dX7_century_114 : decode cX7_century 114 = .ok (.aload_n 0, 1) := by decide +kernel
theorem dX7_century_115 : decode cX7_century 115 = .ok (.getfield 50, 3) := by decide +kernel
theorem dX7_century_118 : decode cX7_century 118 = .ok (.invokevirtual 253, 3) := by decide +kernel
theorem dX7_century_121 : decode cX7_century 121 = .ok (.goto 11, 3) := by decide +kernel
theorem dX7_century_124 : decode cX7_century 124 = .ok (.aload_n 0, 1) := by decide +kernel
theorem dX7_century_125 : decode cX7_century 125 = .ok (.getfield 50, 3) := by decide +kernel
theorem dX7_century_128 : decode cX7_century 128 = .ok (.iconst 1, 1) := by decide +kernel
theorem dX7_century_129 : decode cX7_century 129 = .ok (.invokestatic 256, 3) := by decide +kernel
theorem dX7_century_132 : decode cX7_century 132 = .ok (.ireturn, 1) := by decide +kernel
theorem dX7_keep_0 : decode cX7_keep 0 = .ok (.aload_n 0, 1) := by decide +kernel
theorem dX7_keep_1 : decode cX7_keep 1 = .ok (.getfield 157, 3) := by decide +kernel
theorem dX7_keep_4 : decode cX7_keep 4 = .ok (.iconst 2, 1) := by decide +kernel
theorem dX7_keep_5 : decode cX7_keep 5 = .ok (.if_icmp .ne 6, 3) := by decide +kernel
theorem dX7_keep_8 : decode cX7_keep 8 = .ok (.bipush (-3), 2) := by decide +kernel
theorem dX7_keep_10 : decode cX7_keep 10 = .ok (.ireturn, 1) := by decide +kernel
theorem dX7_keep_11 : decode cX7_keep 11 = .ok (.iconst 0, 1) := by decide +kernel
theorem dX7_keep_12 : decode cX7_keep 12 = .ok (.istore_n 1, 1) := by decide +kernel
theorem dX7_keep_13 : decode cX7_keep 13 = .ok (.iload_n 1, 1) := by decide +kernel
theorem dX7_keep_14 : decode cX7_keep 14 = .ok (.sipush 179, 3) := by decide +kernel
theorem dX7_keep_17 : decode cX7_keep 17 = .ok (.if_icmp .ge 30, 3) := by decide +kernel
theorem dX7_keep_20 : decode cX7_keep 20 = .ok (.aload_n 0, 1) := by decide +kernel
theorem dX7_keep_21 : decode cX7_keep 21 = .ok (.getfield 47, 3) := by decide +kernel
theorem dX7_keep_24 : decode cX7_keep 24 = .ok (.sipush 179, 3) := by decide +kernel
theorem dX7_keep_27 : decode cX7_keep 27 = .ok (.aload_n 0, 1) := by decide +kernel
theorem dX7_keep_28 : decode cX7_keep 28 = .ok (.getfield 157, 3) := by decide +kernel
theorem dX7_keep_31 : decode cX7_keep 31 = .ok (.imul, 1) := by decide +kernel
theorem dX7_keep_32 : decode cX7_keep 32 = .ok (.iload_n 1, 1) := by decide +kernel
theorem dX7_keep_33 : decode cX7_keep 33 = .ok (.iadd, 1) := by decide +kernel
theorem dX7_keep_34 : decode cX7_keep 34 = .ok (.aload_n 0, 1) := by decide +kernel
theorem dX7_keep_35 : decode cX7_keep 35 = .ok (.getfield 41, 3) := by decide +kernel
theorem dX7_keep_38 : decode cX7_keep 38 = .ok (.iload_n 1, 1) := by decide +kernel
theorem dX7_keep_39 : decode cX7_keep 39 = .ok (.iaload, 1) := by decide +kernel
theorem dX7_keep_40 : decode cX7_keep 40 = .ok (.iastore, 1) := by decide +kernel
theorem dX7_keep_41 : decode cX7_keep 41 = .ok (.iinc 1 1, 3) := by decide +kernel
theorem dX7_keep_44 : decode cX7_keep 44 = .ok (.goto (-31), 3) := by decide +kernel
theorem dX7_keep_47 : decode cX7_keep 47 = .ok (.aload_n 0, 1) := by decide +kernel
theorem dX7_keep_48 : decode cX7_keep 48 = .ok (.dup, 1) := by decide +kernel
theorem dX7_keep_49 : decode cX7_keep 49 = .ok (.getfield 157, 3) := by decide +kernel
theorem dX7_keep_52 : decode cX7_keep 52 = .ok (.iconst 1, 1) := by decide +kernel
theorem dX7_keep_53 : decode cX7_keep 53 = .ok (.iadd, 1) := by decide +kernel
theorem dX7_keep_54 : decode cX7_keep 54 = .ok (.putfield 157, 3) := by decide +kernel
theorem dX7_keep_57 : decode cX7_keep 57 = .ok (.aload_n 0, 1) := by decide +kernel
theorem dX7_keep_58 : decode cX7_keep 58 = .ok (.getfield 157, 3) := by decide +kernel
theorem dX7_keep_61 : decode cX7_keep 61 = .ok (.ireturn, 1) := by decide +kernel
theorem dX7_back_0 : decode cX7_back 0 = .ok (.aload_n 0, 1) := by decide +kernel
theorem dX7_back_1 : decode cX7_back 1 = .ok (.getfield 157, 3) := by decide +kernel
theorem dX7_back_4 : decode cX7_back 4 = .ok (.ifCond .ne 6, 3) := by decide +kernel
theorem dX7_back_7 : decode cX7_back 7 = .ok (.bipush (-2), 2) := by decide +kernel
theorem dX7_back_9 : decode cX7_back 9 = .ok (.ireturn, 1) := by decide +kernel
theorem dX7_back_10 : decode cX7_back 10 = .ok (.aload_n 0, 1) := by decide +kernel
theorem dX7_back_11 : decode cX7_back 11 = .ok (.dup, 1) := by decide +kernel
theorem dX7_back_12 : decode cX7_back 12 = .ok (.getfield 157, 3) := by decide +kernel
theorem dX7_back_15 : decode cX7_back 15 = .ok (.iconst 1, 1) := by decide +kernel
theorem dX7_back_16 : decode cX7_back 16 = .ok (.isub, 1) := by decide +kernel
theorem dX7_back_17 : decode cX7_back 17 = .ok (.putfield 157, 3) := by decide +kernel
theorem dX7_back_20 : decode cX7_back 20 = .ok (.iconst 0, 1) := by decide +kernel
theorem dX7_back_21 : decode cX7_back 21 = .ok (.istore_n 1, 1) := by decide +kernel
theorem dX7_back_22 : decode cX7_back 22 = .ok (.iload_n 1, 1) := by decide +kernel
theorem dX7_back_23 : decode cX7_back 23 = .ok (.sipush 179, 3) := by decide +kernel
theorem dX7_back_26 : decode cX7_back 26 = .ok (.if_icmp .ge 30, 3) := by decide +kernel
theorem dX7_back_29 : decode cX7_back 29 = .ok (.aload_n 0, 1) := by decide +kernel
theorem dX7_back_30 : decode cX7_back 30 = .ok (.getfield 41, 3) := by decide +kernel
theorem dX7_back_33 : decode cX7_back 33 = .ok (.iload_n 1, 1) := by decide +kernel
theorem dX7_back_34 : decode cX7_back 34 = .ok (.aload_n 0, 1) := by decide +kernel
theorem dX7_back_35 : decode cX7_back 35 = .ok (.getfield 47, 3) := by decide +kernel
theorem dX7_back_38 : decode cX7_back 38 = .ok (.sipush 179, 3) := by decide +kernel
theorem dX7_back_41 : decode cX7_back 41 = .ok (.aload_n 0, 1) := by decide +kernel
theorem dX7_back_42 : decode cX7_back 42 = .ok (.getfield 157, 3) := by decide +kernel
theorem dX7_back_45 : decode cX7_back 45 = .ok (.imul, 1) := by decide +kernel
theorem dX7_back_46 : decode cX7_back 46 = .ok (.iload_n 1, 1) := by decide +kernel
theorem dX7_back_47 : decode cX7_back 47 = .ok (.iadd, 1) := by decide +kernel
theorem dX7_back_48 : decode cX7_back 48 = .ok (.iaload, 1) := by decide +kernel
theorem dX7_back_49 : decode cX7_back 49 = .ok (.iastore, 1) := by decide +kernel
theorem dX7_back_50 : decode cX7_back 50 = .ok (.iinc 1 1, 3) := by decide +kernel
theorem dX7_back_53 : decode cX7_back 53 = .ok (.goto (-31), 3) := by decide +kernel
theorem dX7_back_56 : decode cX7_back 56 = .ok (.aload_n 0, 1) := by decide +kernel
theorem dX7_back_57 : decode cX7_back 57 = .ok (.iconst 0, 1) := by decide +kernel
theorem dX7_back_58 : decode cX7_back 58 = .ok (.putfield 154, 3) := by decide +kernel
theorem dX7_back_61 : decode cX7_back 61 = .ok (.aload_n 0, 1) := by decide +kernel
theorem dX7_back_62 : decode cX7_back 62 = .ok (.getfield 157, 3) := by decide +kernel
theorem dX7_back_65 : decode cX7_back 65 = .ok (.ireturn, 1) := by decide +kernel
theorem dX7_count_0 : decode cX7_count 0 = .ok (.iload_n 1, 1) := by decide +kernel
theorem dX7_count_1 : decode cX7_count 1 = .ok (.tableswitch 155 0 12 #[67, 74, 81, 88, 95, 103, 112, 121, 130, 135, 140, 145, 150], 67) := by decide +kernel
theorem dX7_count_68 : decode cX7_count 68 = .ok (.aload_n 0, 1) := by decide +kernel
theorem dX7_count_69 : decode cX7_count 69 = .ok (.getfield 13, 3) := by decide +kernel
theorem dX7_count_72 : decode cX7_count 72 = .ok (.iconst 0, 1) := by decide +kernel
theorem dX7_count_73 : decode cX7_count 73 = .ok (.iaload, 1) := by decide +kernel
theorem dX7_count_74 : decode cX7_count 74 = .ok (.ireturn, 1) := by decide +kernel
theorem dX7_count_75 : decode cX7_count 75 = .ok (.aload_n 0, 1) := by decide +kernel
theorem dX7_count_76 : decode cX7_count 76 = .ok (.getfield 17, 3) := by decide +kernel
theorem dX7_count_79 : decode cX7_count 79 = .ok (.iconst 0, 1) := by decide +kernel
theorem dX7_count_80 : decode cX7_count 80 = .ok (.iaload, 1) := by decide +kernel
theorem dX7_count_81 : decode cX7_count 81 = .ok (.ireturn, 1) := by decide +kernel
theorem dX7_count_82 : decode cX7_count 82 = .ok (.aload_n 0, 1) := by decide +kernel
theorem dX7_count_83 : decode cX7_count 83 = .ok (.getfield 20, 3) := by decide +kernel
theorem dX7_count_86 : decode cX7_count 86 = .ok (.iconst 0, 1) := by decide +kernel
theorem dX7_count_87 : decode cX7_count 87 = .ok (.iaload, 1) := by decide +kernel
theorem dX7_count_88 : decode cX7_count 88 = .ok (.ireturn, 1) := by decide +kernel
theorem dX7_count_89 : decode cX7_count 89 = .ok (.aload_n 0, 1) := by decide +kernel
theorem dX7_count_90 : decode cX7_count 90 = .ok (.getfield 41, 3) := by decide +kernel
theorem dX7_count_93 : decode cX7_count 93 = .ok (.iconst 5, 1) := by decide +kernel
theorem dX7_count_94 : decode cX7_count 94 = .ok (.iaload, 1) := by decide +kernel
theorem dX7_count_95 : decode cX7_count 95 = .ok (.ireturn, 1) := by decide +kernel
theorem dX7_count_96 : decode cX7_count 96 = .ok (.aload_n 0, 1) := by decide +kernel
theorem dX7_count_97 : decode cX7_count 97 = .ok (.getfield 41, 3) := by decide +kernel
theorem dX7_count_100 : decode cX7_count 100 = .ok (.bipush 6, 2) := by decide +kernel
theorem dX7_count_102 : decode cX7_count 102 = .ok (.iaload, 1) := by decide +kernel
theorem dX7_count_103 : decode cX7_count 103 = .ok (.ireturn, 1) := by decide +kernel
theorem dX7_count_104 : decode cX7_count 104 = .ok (.aload_n 0, 1) := by decide +kernel
theorem dX7_count_105 : decode cX7_count 105 = .ok (.getfield 41, 3) := by decide +kernel
theorem dX7_count_108 : decode cX7_count 108 = .ok (.iconst 0, 1) := by decide +kernel
theorem dX7_count_109 : decode cX7_count 109 = .ok (.invokestatic 256, 3) := by decide +kernel
theorem dX7_count_112 : decode cX7_count 112 = .ok (.ireturn, 1) := by decide +kernel
theorem dX7_count_113 : decode cX7_count 113 = .ok (.aload_n 0, 1) := by decide +kernel
theorem dX7_count_114 : decode cX7_count 114 = .ok (.aload_n 0, 1) := by decide +kernel
theorem dX7_count_115 : decode cX7_count 115 = .ok (.getfield 41, 3) := by decide +kernel
theorem dX7_count_118 : decode cX7_count 118 = .ok (.invokevirtual 253, 3) := by decide +kernel
theorem dX7_count_121 : decode cX7_count 121 = .ok (.ireturn, 1) := by decide +kernel
theorem dX7_count_122 : decode cX7_count 122 = .ok (.aload_n 0, 1) := by decide +kernel
theorem dX7_count_123 : decode cX7_count 123 = .ok (.aload_n 0, 1) := by decide +kernel
theorem dX7_count_124 : decode cX7_count 124 = .ok (.getfield 41, 3) := by decide +kernel
theorem dX7_count_127 : decode cX7_count 127 = .ok (.invokevirtual 201, 3) := by decide +kernel
theorem dX7_count_130 : decode cX7_count 130 = .ok (.ireturn, 1) := by decide +kernel
theorem dX7_count_131 : decode cX7_count 131 = .ok (.aload_n 0, 1) := by decide +kernel
theorem dX7_count_132 : decode cX7_count 132 = .ok (.getfield 160, 3) := by decide +kernel
theorem dX7_count_135 : decode cX7_count 135 = .ok (.ireturn, 1) := by decide +kernel
theorem dX7_count_136 : decode cX7_count 136 = .ok (.aload_n 0, 1) := by decide +kernel
theorem dX7_count_137 : decode cX7_count 137 = .ok (.getfield 163, 3) := by decide +kernel
theorem dX7_count_140 : decode cX7_count 140 = .ok (.ireturn, 1) := by decide +kernel
theorem dX7_count_141 : decode cX7_count 141 = .ok (.aload_n 0, 1) := by decide +kernel
theorem dX7_count_142 : decode cX7_count 142 = .ok (.getfield 154, 3) := by decide +kernel
theorem dX7_count_145 : decode cX7_count 145 = .ok (.ireturn, 1) := by decide +kernel
theorem dX7_count_146 : decode cX7_count 146 = .ok (.aload_n 0, 1) := by decide +kernel
theorem dX7_count_147 : decode cX7_count 147 = .ok (.getfield 157, 3) := by decide +kernel
theorem dX7_count_150 : decode cX7_count 150 = .ok (.ireturn, 1) := by decide +kernel
theorem dX7_count_151 : decode cX7_count 151 = .ok (.aload_n 0, 1) := by decide +kernel
theorem dX7_count_152 : decode cX7_count 152 = .ok (.getfield 87, 3) := by decide +kernel
theorem dX7_count_155 : decode cX7_count 155 = .ok (.ireturn, 1) := by decide +kernel
theorem dX7_count_156 : decode cX7_count 156 = .ok (.iconst (-1), 1) := by decide +kernel
theorem dX7_count_157 : decode cX7_count 157 = .ok (.ireturn, 1) := by decide +kernel
theorem dJ6_bitCount_0f7a4_0 : decode cJ6_bitCount_0f7a4 0 = .ok (.iload_n 0, 1) := by decide +kernel
theorem dJ6_bitCount_0f7a4_1 : decode cJ6_bitCount_0f7a4 1 = .ok (.iload_n 0, 1) := by decide +kernel
theorem dJ6_bitCount_0f7a4_2 : decode cJ6_bitCount_0f7a4 2 = .ok (.iconst 1, 1) := by decide +kernel
theorem dJ6_bitCount_0f7a4_3 : decode cJ6_bitCount_0f7a4 3 = .ok (.iushr, 1) := by decide +kernel
theorem dJ6_bitCount_0f7a4_4 : decode cJ6_bitCount_0f7a4 4 = .ok (.ldc_w 265, 3) := by decide +kernel
theorem dJ6_bitCount_0f7a4_7 : decode cJ6_bitCount_0f7a4 7 = .ok (.iand, 1) := by decide +kernel
theorem dJ6_bitCount_0f7a4_8 : decode cJ6_bitCount_0f7a4 8 = .ok (.isub, 1) := by decide +kernel
theorem dJ6_bitCount_0f7a4_9 : decode cJ6_bitCount_0f7a4 9 = .ok (.istore_n 0, 1) := by decide +kernel
theorem dJ6_bitCount_0f7a4_10 : decode cJ6_bitCount_0f7a4 10 = .ok (.iload_n 0, 1) := by decide +kernel
theorem dJ6_bitCount_0f7a4_11 : decode cJ6_bitCount_0f7a4 11 = .ok (.ldc_w 266, 3) := by decide +kernel
theorem dJ6_bitCount_0f7a4_14 : decode cJ6_bitCount_0f7a4 14 = .ok (.iand, 1) := by decide +kernel
theorem dJ6_bitCount_0f7a4_15 : decode cJ6_bitCount_0f7a4 15 = .ok (.iload_n 0, 1) := by decide +kernel
theorem dJ6_bitCount_0f7a4_16 : decode cJ6_bitCount_0f7a4 16 = .ok (.iconst 2, 1) := by decide +kernel
theorem dJ6_bitCount_0f7a4_17 : decode cJ6_bitCount_0f7a4 17 = .ok (.iushr, 1) := by decide +kernel
theorem dJ6_bitCount_0f7a4_18 : decode cJ6_bitCount_0f7a4 18 = .ok (.ldc_w 266, 3) := by decide +kernel
theorem dJ6_bitCount_0f7a4_21 : decode cJ6_bitCount_0f7a4 21 = .ok (.iand, 1) := by decide +kernel
theorem dJ6_bitCount_0f7a4_22 : decode cJ6_bitCount_0f7a4 22 = .ok (.iadd, 1) := by decide +kernel
theorem dJ6_bitCount_0f7a4_23 : decode cJ6_bitCount_0f7a4 23 = .ok (.istore_n 0, 1) := by decide +kernel
theorem dJ6_bitCount_0f7a4_24 : decode cJ6_bitCount_0f7a4 24 = .ok (.iload_n 0, 1) := by decide +kernel
theorem dJ6_bitCount_0f7a4_25 : decode cJ6_bitCount_0f7a4 25 = .ok (.iload_n 0, 1) := by decide +kernel
theorem dJ6_bitCount_0f7a4_26 : decode cJ6_bitCount_0f7a4 26 = .ok (.iconst 4, 1) := by decide +kernel
theorem dJ6_bitCount_0f7a4_27 : decode cJ6_bitCount_0f7a4 27 = .ok (.iushr, 1) := by decide +kernel
theorem dJ6_bitCount_0f7a4_28 : decode cJ6_bitCount_0f7a4 28 = .ok (.iadd, 1) := by decide +kernel
theorem dJ6_bitCount_0f7a4_29 : decode cJ6_bitCount_0f7a4 29 = .ok (.ldc_w 267, 3) := by decide +kernel
theorem dJ6_bitCount_0f7a4_32 : decode cJ6_bitCount_0f7a4 32 = .ok (.iand, 1) := by decide +kernel
theorem dJ6_bitCount_0f7a4_33 : decode cJ6_bitCount_0f7a4 33 = .ok (.istore_n 0, 1) := by decide +kernel
theorem dJ6_bitCount_0f7a4_34 : decode cJ6_bitCount_0f7a4 34 = .ok (.iload_n 0, 1) := by decide +kernel
theorem dJ6_bitCount_0f7a4_35 : decode cJ6_bitCount_0f7a4 35 = .ok (.iload_n 0, 1) := by decide +kernel
theorem dJ6_bitCount_0f7a4_36 : decode cJ6_bitCount_0f7a4 36 = .ok (.bipush 8, 2) := by decide +kernel
theorem dJ6_bitCount_0f7a4_38 : decode cJ6_bitCount_0f7a4 38 = .ok (.iushr, 1) := by decide +kernel
theorem dJ6_bitCount_0f7a4_39 : decode cJ6_bitCount_0f7a4 39 = .ok (.iadd, 1) := by decide +kernel
theorem dJ6_bitCount_0f7a4_40 : decode cJ6_bitCount_0f7a4 40 = .ok (.istore_n 0, 1) := by decide +kernel
theorem dJ6_bitCount_0f7a4_41 : decode cJ6_bitCount_0f7a4 41 = .ok (.iload_n 0, 1) := by decide +kernel
theorem dJ6_bitCount_0f7a4_42 : decode cJ6_bitCount_0f7a4 42 = .ok (.iload_n 0, 1) := by decide +kernel
theorem dJ6_bitCount_0f7a4_43 : decode cJ6_bitCount_0f7a4 43 = .ok (.bipush 16, 2) := by decide +kernel
theorem dJ6_bitCount_0f7a4_45 : decode cJ6_bitCount_0f7a4 45 = .ok (.iushr, 1) := by decide +kernel
theorem dJ6_bitCount_0f7a4_46 : decode cJ6_bitCount_0f7a4 46 = .ok (.iadd, 1) := by decide +kernel
theorem dJ6_bitCount_0f7a4_47 : decode cJ6_bitCount_0f7a4 47 = .ok (.istore_n 0, 1) := by decide +kernel
theorem dJ6_bitCount_0f7a4_48 : decode cJ6_bitCount_0f7a4 48 = .ok (.iload_n 0, 1) := by decide +kernel
theorem dJ6_bitCount_0f7a4_49 : decode cJ6_bitCount_0f7a4 49 = .ok (.bipush 63, 2) := by decide +kernel
theorem dJ6_bitCount_0f7a4_51 : decode cJ6_bitCount_0f7a4 51 = .ok (.iand, 1) := by decide +kernel
theorem dJ6_bitCount_0f7a4_52 : decode cJ6_bitCount_0f7a4 52 = .ok (.ireturn, 1) := by decide +kernel
theorem dJ9_max_7cf53_0 : decode cJ9_max_7cf53 0 = .ok (.iload_n 0, 1) := by decide +kernel
theorem dJ9_max_7cf53_1 : decode cJ9_max_7cf53 1 = .ok (.iload_n 1, 1) := by decide +kernel
theorem dJ9_max_7cf53_2 : decode cJ9_max_7cf53 2 = .ok (.if_icmp .lt 7, 3) := by decide +kernel
theorem dJ9_max_7cf53_5 : decode cJ9_max_7cf53 5 = .ok (.iload_n 0, 1) := by decide +kernel
theorem dJ9_max_7cf53_6 : decode cJ9_max_7cf53 6 = .ok (.goto 4, 3) := by decide +kernel
theorem dJ9_max_7cf53_9 : decode cJ9_max_7cf53 9 = .ok (.iload_n 1, 1) := by decide +kernel
theorem dJ9_max_7cf53_10 : decode cJ9_max_7cf53 10 = .ok (.ireturn, 1) := by decide +kernel
theorem dJ9_min_7cf53_0 : decode cJ9_min_7cf53 0 = .ok (.iload_n 0, 1) := by decide +kernel
theorem dJ9_min_7cf53_1 : decode cJ9_min_7cf53 1 = .ok (.iload_n 1, 1) := by decide +kernel
theorem dJ9_min_7cf53_2 : decode cJ9_min_7cf53 2 = .ok (.if_icmp .gt 7, 3) := by decide +kernel
theorem dJ9_min_7cf53_5 : decode cJ9_min_7cf53 5 = .ok (.iload_n 0, 1) := by decide +kernel
theorem dJ9_min_7cf53_6 : decode cJ9_min_7cf53 6 = .ok (.goto 4, 3) := by decide +kernel
theorem dJ9_min_7cf53_9 : decode cJ9_min_7cf53 9 = .ok (.iload_n 1, 1) := by decide +kernel
theorem dJ9_min_7cf53_10 : decode cJ9_min_7cf53 10 = .ok (.ireturn, 1) := by decide +kernel
theorem dJ0_length_8abf5_0 : decode cJ0_length_8abf5 0 = .ok (.aload_n 0, 1) := by decide +kernel
theorem dJ0_length_8abf5_1 : decode cJ0_length_8abf5 1 = .ok (.getfield 9, 3) := by decide +kernel
theorem dJ0_length_8abf5_4 : decode cJ0_length_8abf5 4 = .ok (.arraylength, 1) := by decide +kernel
theorem dJ0_length_8abf5_5 : decode cJ0_length_8abf5 5 = .ok (.aload_n 0, 1) := by decide +kernel
theorem dJ0_length_8abf5_6 : decode cJ0_length_8abf5 6 = .ok (.invokevirtual 335, 3) := by decide +kernel
theorem dJ0_length_8abf5_9 : decode cJ0_length_8abf5 9 = .ok (.ishr, 1) := by decide +kernel
theorem dJ0_length_8abf5_10 : decode cJ0_length_8abf5 10 = .ok (.ireturn, 1) := by decide +kernel
theorem dJ0_charAt_5068e_0 : decode cJ0_charAt_5068e 0 = .ok (.aload_n 0, 1) := by decide +kernel
theorem dJ0_charAt_5068e_1 : decode cJ0_charAt_5068e 1 = .ok (.invokevirtual 492, 3) := by decide +kernel
theorem dJ0_charAt_5068e_4 : decode cJ0_charAt_5068e 4 = .ok (.ifCond .eq 12, 3) := by decide +kernel
theorem dJ0_charAt_5068e_7 : decode cJ0_charAt_5068e 7 = .ok (.aload_n 0, 1) := by decide +kernel
theorem dJ0_charAt_5068e_8 : decode cJ0_charAt_5068e 8 = .ok (.getfield 9, 3) := by decide +kernel
theorem dJ0_charAt_5068e_11 : decode cJ0_charAt_5068e 11 = .ok (.iload_n 1, 1) := by decide +kernel
theorem dJ0_charAt_5068e_12 : decode cJ0_charAt_5068e 12 = .ok (.invokestatic 495, 3) := by decide +kernel
theorem dJ0_charAt_5068e_15 : decode cJ0_charAt_5068e 15 = .ok (.ireturn, 1) := by decide +kernel
theorem dJ0_charAt_5068e_16 : decode cJ0_charAt_5068e 16 = .ok (.aload_n 0, 1) := by decide +kernel
theorem dJ0_charAt_5068e_17 : decode cJ0_charAt_5068e 17 = .ok (.getfield 9, 3) := by decide +kernel
theorem dJ0_charAt_5068e_20 : decode cJ0_charAt_5068e 20 = .ok (.iload_n 1, 1) := by decide +kernel
theorem dJ0_charAt_5068e_21 : decode cJ0_charAt_5068e 21 = .ok (.invokestatic 498, 3) := by decide +kernel
theorem dJ0_charAt_5068e_24 : decode cJ0_charAt_5068e 24 = .ok (.ireturn, 1) := by decide +kernel
theorem dJ0_coder_7d493_0 : decode cJ0_coder_7d493 0 = .ok (.getstatic 38, 3) := by decide +kernel
theorem dJ0_coder_7d493_3 : decode cJ0_coder_7d493 3 = .ok (.ifCond .eq 10, 3) := by decide +kernel
theorem dJ0_coder_7d493_6 : decode cJ0_coder_7d493 6 = .ok (.aload_n 0, 1) := by decide +kernel
theorem dJ0_coder_7d493_7 : decode cJ0_coder_7d493 7 = .ok (.getfield 15, 3) := by decide +kernel
theorem dJ0_coder_7d493_10 : decode cJ0_coder_7d493 10 = .ok (.goto 4, 3) := by decide +kernel
theorem dJ0_coder_7d493_13 : decode cJ0_coder_7d493 13 = .ok (.iconst 1, 1) := by decide +kernel
theorem dJ0_coder_7d493_14 : decode cJ0_coder_7d493 14 = .ok (.ireturn, 1) := by decide +kernel
theorem dJ0_isLatin1_aae02_0 : decode cJ0_isLatin1_aae02 0 = .ok (.getstatic 38, 3) := by decide +kernel
theorem dJ0_isLatin1_aae02_3 : decode cJ0_isLatin1_aae02 3 = .ok (.ifCond .eq 14, 3) := by decide +kernel
theorem dJ0_isLatin1_aae02_6 : decode cJ0_isLatin1_aae02 6 = .ok (.aload_n 0, 1) := by decide +kernel
theorem dJ0_isLatin1_aae02_7 : decode cJ0_isLatin1_aae02 7 = .ok (.getfield 15, 3) := by decide +kernel
theorem dJ0_isLatin1_aae02_10 : decode cJ0_isLatin1_aae02 10 = .ok (.ifCond .ne 7, 3) := by decide +kernel
theorem dJ0_isLatin1_aae02_13 : decode cJ0_isLatin1_aae02 13 = .ok (.iconst 1, 1) := by decide +kernel
theorem dJ0_isLatin1_aae02_14 : decode cJ0_isLatin1_aae02 14 = .ok (.goto 4, 3) := by decide +kernel
theorem dJ0_isLatin1_aae02_17 : decode cJ0_isLatin1_aae02 17 = .ok (.iconst 0, 1) := by decide +kernel
theorem dJ0_isLatin1_aae02_18 : decode cJ0_isLatin1_aae02 18 = .ok (.ireturn, 1) := by decide +kernel
theorem dJ0_checkIndex_df160_0 : decode cJ0_checkIndex_df160 0 = .ok (.iload_n 0, 1) := by decide +kernel
theorem dJ0_checkIndex_df160_1 : decode cJ0_checkIndex_df160 1 = .ok (.iload_n 1, 1) := by decide +kernel
theorem dJ0_checkIndex_df160_2 : decode cJ0_checkIndex_df160 2 = .ok (.getstatic 1053, 3) := by decide +kernel
theorem dJ0_checkIndex_df160_5 : decode cJ0_checkIndex_df160 5 = .ok (.invokestatic 1059, 3) := by decide +kernel
theorem dJ0_checkIndex_df160_8 : decode cJ0_checkIndex_df160 8 = .ok (.pop, 1) := by decide +kernel
theorem dJ0_checkIndex_df160_9 : decode cJ0_checkIndex_df160 9 = .ok (.return_, 1) := by decide +kernel
theorem dJ1_charAt_3b067_0 : decode cJ1_charAt_3b067 0 = .ok (.iload_n 1, 1) := by decide +kernel
theorem dJ1_charAt_3b067_1 : decode cJ1_charAt_3b067 1 = .ok (.aload_n 0, 1) := by decide +kernel
theorem dJ1_charAt_3b067_2 : decode cJ1_charAt_3b067 2 = .ok (.arraylength, 1) := by decide +kernel
theorem dJ1_charAt_3b067_3 : decode cJ1_charAt_3b067 3 = .ok (.invokestatic 9, 3) := by decide +kernel
theorem dJ1_charAt_3b067_6 : decode cJ1_charAt_3b067 6 = .ok (.aload_n 0, 1) := by decide +kernel
theorem dJ1_charAt_3b067_7 : decode cJ1_charAt_3b067 7 = .ok (.iload_n 1, 1) := by decide +kernel
theorem dJ1_charAt_3b067_8 : decode cJ1_charAt_3b067 8 = .ok (.baload, 1) := by decide +kernel
theorem dJ1_charAt_3b067_9 : decode cJ1_charAt_3b067 9 = .ok (.sipush 255, 3) := by decide +kernel
theorem dJ1_charAt_3b067_12 : decode cJ1_charAt_3b067 12 = .ok (.iand, 1) := by decide +kernel
theorem dJ1_charAt_3b067_13 : decode cJ1_charAt_3b067 13 = .ok (.i2c, 1) := by decide +kernel
theorem dJ1_charAt_3b067_14 : decode cJ1_charAt_3b067 14 = .ok (.ireturn, 1) := by decide +kernel
theorem dJ2_getChar_3b067_0 : decode cJ2_getChar_3b067 0 = .ok (.getstatic 44, 3) := by decide +kernel
theorem dJ2_getChar_3b067_3 : decode cJ2_getChar_3b067 3 = .ok (.ifCond .ne 25, 3) := by decide +kernel
theorem dJ2_getChar_3b067_6 : decode cJ2_getChar_3b067 6 = .ok (.iload_n 1, 1) := by decide +kernel
theorem dJ2_getChar_3b067_7 : decode cJ2_getChar_3b067 7 = .ok (.ifCond .lt 11, 3) := by decide +kernel
theorem dJ2_getChar_3b067_10 : decode cJ2_getChar_3b067 10 = .ok (.iload_n 1, 1) := by decide +kernel
theorem dJ2_getChar_3b067_11 : decode cJ2_getChar_3b067 11 = .ok (.aload_n 0, 1) := by decide +kernel
theorem dJ2_getChar_3b067_12 : decode cJ2_getChar_3b067 12 = .ok (.invokestatic 48, 3) := by decide +kernel
theorem dJ2_getChar_3b067_15 : decode cJ2_getChar_3b067 15 = .ok (.if_icmp .lt 13, 3) := by decide +kernel
theorem dJ2_getChar_3b067_18 : decode cJ2_getChar_3b067 18 = .ok (.new 52, 3) := by decide +kernel
theorem dJ2_getChar_3b067_21 : decode cJ2_getChar_3b067 21 = .ok (.dup, 1) := by decide +kernel
theorem dJ2_getChar_3b067_22 : decode cJ2_getChar_3b067 22 = .ok (.ldc 54, 2) := by decide +kernel
theorem dJ2_getChar_3b067_24 : decode cJ2_getChar_3b067 24 = .ok (.invokespecial 56, 3) := by decide +kernel
theorem dJ2_getChar_3b067_27 : decode cJ2_getChar_3b067 27 = .ok (.athrow, 1) := by decide +kernel
theorem dJ2_getChar_3b067_28 : decode cJ2_getChar_3b067 28 = .ok (.iload_n 1, 1) := by decide +kernel
theorem dJ2_getChar_3b067_29 : decode cJ2_getChar_3b067 29 = .ok (.iconst 1, 1) := by decide +kernel
theorem dJ2_getChar_3b067_30 : decode cJ2_getChar_3b067 30 = .ok (.ishl, 1) := by decide +kernel
theorem dJ2_getChar_3b067_31 : decode cJ2_getChar_3b067 31 = .ok (.istore_n 1, 1) := by decide +kernel
theorem dJ2_getChar_3b067_32 : decode cJ2_getChar_3b067 32 = .ok (.aload_n 0, 1) := by decide +kernel
theorem dJ2_getChar_3b067_33 : decode cJ2_getChar_3b067 33 = .ok (.iload_n 1, 1) := by decide +kernel
theorem dJ2_getChar_3b067_34 : decode cJ2_getChar_3b067 34 = .ok (.iinc 1 1, 3) := by decide +kernel
theorem dJ2_getChar_3b067_37 : decode cJ2_getChar_3b067 37 = .ok (.baload, 1) := by decide +kernel
theorem dJ2_getChar_3b067_38 : decode cJ2_getChar_3b067 38 = .ok (.sipush 255, 3) := by decide +kernel
theorem dJ2_getChar_3b067_41 : decode cJ2_getChar_3b067 41 = .ok (.iand, 1) := by decide +kernel
theorem dJ2_getChar_3b067_42 : decode cJ2_getChar_3b067 42 = .ok (.getstatic 59, 3) := by decide +kernel
theorem dJ2_getChar_3b067_45 : decode cJ2_getChar_3b067 45 = .ok (.ishl, 1) := by decide +kernel
theorem dJ2_getChar_3b067_46 : decode cJ2_getChar_3b067 46 = .ok (.aload_n 0, 1) := by decide +kernel
theorem dJ2_getChar_3b067_47 : decode cJ2_getChar_3b067 47 = .ok (.iload_n 1, 1) := by decide +kernel
theorem dJ2_getChar_3b067_48 : decode cJ2_getChar_3b067 48 = .ok (.baload, 1) := by decide +kernel
theorem dJ2_getChar_3b067_49 : decode cJ2_getChar_3b067 49 = .ok (.sipush 255, 3) := by decide +kernel
theorem dJ2_getChar_3b067_52 : decode cJ2_getChar_3b067 52 = .ok (.iand, 1) := by decide +kernel
theorem dJ2_getChar_3b067_53 : decode cJ2_getChar_3b067 53 = .ok (.getstatic 63, 3) := by decide +kernel
theorem dJ2_getChar_3b067_56 : decode cJ2_getChar_3b067 56 = .ok (.ishl, 1) := by decide +kernel
theorem dJ2_getChar_3b067_57 : decode cJ2_getChar_3b067 57 = .ok (.ior, 1) := by decide +kernel
theorem dJ2_getChar_3b067_58 : decode cJ2_getChar_3b067 58 = .ok (.i2c, 1) := by decide +kernel
theorem dJ2_getChar_3b067_59 : decode cJ2_getChar_3b067 59 = .ok (.ireturn, 1) := by decide +kernel
theorem dJ2_length_9d52b_0 : decode cJ2_length_9d52b 0 = .ok (.aload_n 0, 1) := by decide +kernel
theorem dJ2_length_9d52b_1 : decode cJ2_length_9d52b 1 = .ok (.arraylength, 1) := by decide +kernel
theorem dJ2_length_9d52b_2 : decode cJ2_length_9d52b 2 = .ok (.iconst 1, 1) := by decide +kernel
theorem dJ2_length_9d52b_3 : decode cJ2_length_9d52b 3 = .ok (.ishr, 1) := by decide +kernel
theorem dJ2_length_9d52b_4 : decode cJ2_length_9d52b 4 = .ok (.ireturn, 1) := by decide +kernel
theorem dJ2_charAt_3b067_0 : decode cJ2_charAt_3b067 0 = .ok (.iload_n 1, 1) := by decide +kernel
theorem dJ2_charAt_3b067_1 : decode cJ2_charAt_3b067 1 = .ok (.aload_n 0, 1) := by decide +kernel
theorem dJ2_charAt_3b067_2 : decode cJ2_charAt_3b067 2 = .ok (.invokestatic 67, 3) := by decide +kernel
theorem dJ2_charAt_3b067_5 : decode cJ2_charAt_3b067 5 = .ok (.aload_n 0, 1) := by decide +kernel
theorem dJ2_charAt_3b067_6 : decode cJ2_charAt_3b067 6 = .ok (.iload_n 1, 1) := by decide +kernel
theorem dJ2_charAt_3b067_7 : decode cJ2_charAt_3b067 7 = .ok (.invokestatic 71, 3) := by decide +kernel
theorem dJ2_charAt_3b067_10 : decode cJ2_charAt_3b067 10 = .ok (.ireturn, 1) := by decide +kernel
theorem dJ2_checkIndex_2214a_0 : decode cJ2_checkIndex_2214a 0 = .ok (.iload_n 0, 1) := by decide +kernel
theorem dJ2_checkIndex_2214a_1 : decode cJ2_checkIndex_2214a 1 = .ok (.aload_n 1, 1) := by decide +kernel
theorem dJ2_checkIndex_2214a_2 : decode cJ2_checkIndex_2214a 2 = .ok (.invokestatic 48, 3) := by decide +kernel
theorem dJ2_checkIndex_2214a_5 : decode cJ2_checkIndex_2214a 5 = .ok (.invokestatic 414, 3) := by decide +kernel
theorem dJ2_checkIndex_2214a_8 : decode cJ2_checkIndex_2214a 8 = .ok (.return_, 1) := by decide +kernel
theorem dJ3_checkIndex_8e157_0 : decode cJ3_checkIndex_8e157 0 = .ok (.iload_n 0, 1) := by decide +kernel
theorem dJ3_checkIndex_8e157_1 : decode cJ3_checkIndex_8e157 1 = .ok (.ifCond .lt 8, 3) := by decide +kernel
theorem dJ3_checkIndex_8e157_4 : decode cJ3_checkIndex_8e157 4 = .ok (.iload_n 0, 1) := by decide +kernel
theorem dJ3_checkIndex_8e157_5 : decode cJ3_checkIndex_8e157 5 = .ok (.iload_n 1, 1) := by decide +kernel
theorem dJ3_checkIndex_8e157_6 : decode cJ3_checkIndex_8e157 6 = .ok (.if_icmp .lt 10, 3) := by decide +kernel
theorem dJ3_checkIndex_8e157_9 : decode cJ3_checkIndex_8e157 9 = .ok (.aload_n 2, 1) := by decide +kernel
theorem dJ3_checkIndex_8e157_10 : decode cJ3_checkIndex_8e157 10 = .ok (.iload_n 0, 1) := by decide +kernel
theorem dJ3_checkIndex_8e157_11 : decode cJ3_checkIndex_8e157 11 = .ok (.iload_n 1, 1) := by decide +kernel
theorem dJ3_checkIndex_8e157_12 : decode cJ3_checkIndex_8e157 12 = .ok (.invokestatic 95, 3) := by decide +kernel
theorem dJ3_checkIndex_8e157_15 : decode cJ3_checkIndex_8e157 15 = .ok (.athrow, 1) := by decide +kernel
theorem dJ3_checkIndex_8e157_16 : decode cJ3_checkIndex_8e157 16 = .ok (.iload_n 0, 1) := by decide +kernel
theorem dJ3_checkIndex_8e157_17 : decode cJ3_checkIndex_8e157 17 = .ok (.ireturn, 1) := by decide +kernel
theorem dL_law_0 : decode cL_law 0 = .ok (.new 7, 3) := by decide +kernel
theorem dL_law_3 : decode cL_law 3 = .ok (.dup, 1) := by decide +kernel
theorem dL_law_4 : decode cL_law 4 = .ok (.invokespecial 9, 3) := by decide +kernel
theorem dL_law_7 : decode cL_law 7 = .ok (.astore_n 1, 1) := by decide +kernel
theorem dL_law_8 : decode cL_law 8 = .ok (.new 10, 3) := by decide +kernel
theorem dL_law_11 : decode cL_law 11 = .ok (.dup, 1) := by decide +kernel
theorem dL_law_12 : decode cL_law 12 = .ok (.invokespecial 12, 3) := by decide +kernel
theorem dL_law_15 : decode cL_law 15 = .ok (.astore_n 2, 1) := by decide +kernel
theorem dL_law_16 : decode cL_law 16 = .ok (.iconst 0, 1) := by decide +kernel
theorem dL_law_17 : decode cL_law 17 = .ok (.istore_n 3, 1) := by decide +kernel
theorem dL_law_18 : decode cL_law 18 = .ok (.iload_n 3, 1) := by decide +kernel
theorem dL_law_19 : decode cL_law 19 = .ok (.aload_n 0, 1) := by decide +kernel
theorem dL_law_20 : decode cL_law 20 = .ok (.arraylength, 1) := by decide +kernel
theorem dL_law_21 : decode cL_law 21 = .ok (.iconst 4, 1) := by decide +kernel
theorem dL_law_22 : decode cL_law 22 = .ok (.isub, 1) := by decide +kernel
theorem dL_law_23 : decode cL_law 23 = .ok (.if_icmp .gt 992, 3) := by decide +kernel
theorem dL_law_26 : decode cL_law 26 = .ok (.aload_n 0, 1) := by decide +kernel
theorem dL_law_27 : decode cL_law 27 = .ok (.iload_n 3, 1) := by decide +kernel
theorem dL_law_28 : decode cL_law 28 = .ok (.iaload, 1) := by decide +kernel
theorem dL_law_29 : decode cL_law 29 = .ok (.bipush 63, 2) := by decide +kernel
theorem dL_law_31 : decode cL_law 31 = .ok (.iand, 1) := by decide +kernel
theorem dL_law_32 : decode cL_law 32 = .ok (.tableswitch 977 0 32 #[148, 171, 184, 197, 210, 243, 276, 319, 352, 375, 388, 431, 454, 487, 510, 523, 546, 579, 592, 615, 638, 661, 694, 737, 750, 763, 806, 829, 842, 885, 928, 941, 954], 148) := by decide +kernel
theorem dL_law_180 : decode cL_law 180 = .ok (.aload_n 1, 1) := by decide +kernel
theorem dL_law_181 : decode cL_law 181 = .ok (.aload_n 0, 1) := by decide +kernel
theorem dL_law_182 : decode cL_law 182 = .ok (.iload_n 3, 1) := by decide +kernel
theorem dL_law_183 : decode cL_law 183 = .ok (.iconst 1, 1) := by decide +kernel
theorem dL_law_184 : decode cL_law 184 = .ok (.iadd, 1) := by decide +kernel
theorem dL_law_185 : decode cL_law 185 = .ok (.iaload, 1) := by decide +kernel
theorem dL_law_186 : decode cL_law 186 = .ok (.invokevirtual 13, 3) := by decide +kernel
theorem dL_law_189 : decode cL_law 189 = .ok (.aload_n 2, 1) := by decide +kernel
theorem dL_law_190 : decode cL_law 190 = .ok (.aload_n 0, 1) := by decide +kernel
theorem dL_law_191 : decode cL_law 191 = .ok (.iload_n 3, 1) := by decide +kernel
theorem dL_law_192 : decode cL_law 192 = .ok (.iconst 1, 1) := by decide +kernel
theorem dL_law_193 : decode cL_law 193 = .ok (.iadd, 1) := by decide +kernel
theorem dL_law_194 : decode cL_law 194 = .ok (.iaload, 1) := by decide +kernel
theorem dL_law_195 : decode cL_law 195 = .ok (.invokevirtual 17, 3) := by decide +kernel
theorem dL_law_198 : decode cL_law 198 = .ok (.if_icmp .eq 811, 3) := by decide +kernel
theorem dL_law_201 : decode cL_law 201 = .ok (.iconst 0, 1) := by decide +kernel
theorem dL_law_202 : decode cL_law 202 = .ok (.ireturn, 1) := by decide +kernel
theorem dL_law_203 : decode cL_law 203 = .ok (.aload_n 1, 1) := by decide +kernel
theorem dL_law_204 : decode cL_law 204 = .ok (.invokevirtual 18, 3) := by decide +kernel
theorem dL_law_207 : decode cL_law 207 = .ok (.aload_n 2, 1) := by decide +kernel
theorem dL_law_208 : decode cL_law 208 = .ok (.invokevirtual 22, 3) := by decide +kernel
theorem dL_law_211 : decode cL_law 211 = .ok (.if_icmp .eq 798, 3) := by decide +kernel
theorem dL_law_214 : decode cL_law 214 = .ok (.iconst 0, 1) := by decide +kernel
theorem dL_law_215 : decode cL_law 215 = .ok (.ireturn, 1) := by decide +kernel
theorem dL_law_216 : decode cL_law 216 = .ok (.aload_n 1, 1) := by decide +kernel
theorem dL_law_217 : decode cL_law 217 = .ok (.invokevirtual 23, 3) := by decide +kernel
theorem dL_law_220 : decode cL_law 220 = .ok (.aload_n 2, 1) := by decide +kernel
theorem dL_law_221 : decode cL_law 221 = .ok (.invokevirtual 26, 3) := by decide +kernel
theorem dL_law_224 : decode cL_law 224 = .ok (.if_icmp .eq 785, 3) := by decide +kernel
theorem dL_law_227 : decode cL_law 227 = .ok (.iconst 0, 1) := by decide +kernel
theorem dL_law_228 : decode cL_law 228 = .ok (.ireturn, 1) := by decide +kernel
theorem dL_law_229 : decode cL_law 229 = .ok (.aload_n 1, 1) := by decide +kernel
theorem dL_law_230 : decode cL_law 230 = .ok (.invokevirtual 27, 3) := by decide +kernel
theorem dL_law_233 : decode cL_law 233 = .ok (.aload_n 2, 1) := by decide +kernel
theorem dL_law_234 : decode cL_law 234 = .ok (.invokevirtual 30, 3) := by decide +kernel
theorem dL_law_237 : decode cL_law 237 = .ok (.if_icmp .eq 772, 3) := by decide +kernel
theorem dL_law_240 : decode cL_law 240 = .ok (.iconst 0, 1) := by decide +kernel
theorem dL_law_241 : decode cL_law 241 = .ok (.ireturn, 1) := by decide +kernel
theorem dL_law_242 : decode cL_law 242 = .ok (.aload_n 1, 1) := by decide +kernel
theorem dL_law_243 : decode cL_law 243 = .ok (.aload_n 0, 1) := by decide +kernel
theorem dL_law_244 : decode cL_law 244 = .ok (.iload_n 3, 1) := by decide +kernel
theorem dL_law_245 : decode cL_law 245 = .ok (.iconst 1, 1) := by decide +kernel
theorem dL_law_246 : decode cL_law 246 = .ok (.iadd, 1) := by decide +kernel
theorem dL_law_247 : decode cL_law 247 = .ok (.iaload, 1) := by decide +kernel
theorem dL_law_248 : decode cL_law 248 = .ok (.aload_n 0, 1) := by decide +kernel
theorem dL_law_249 : decode cL_law 249 = .ok (.iload_n 3, 1) := by decide +kernel
theorem dL_law_250 : decode cL_law 250 = .ok (.iconst 2, 1) := by decide +kernel
theorem dL_law_251 : decode cL_law 251 = .ok (.iadd, 1) := by decide +kernel
theorem dL_law_252 : decode cL_law 252 = .ok (.iaload, 1) := by decide +kernel
theorem dL_law_253 : decode cL_law 253 = .ok (.invokevirtual 31, 3) := by decide +kernel
theorem dL_law_256 : decode cL_law 256 = .ok (.aload_n 2, 1) := by decide +kernel
theorem dL_law_257 : decode cL_law 257 = .ok (.aload_n 0, 1) := by decide +kernel
theorem dL_law_258 : decode cL_law 258 = .ok (.iload_n 3, 1) := by decide +kernel
theorem dL_law_259 : decode cL_law 259 = .ok (.iconst 1, 1) := by decide +kernel
theorem dL_law_260 : decode cL_law 260 = .ok (.iadd, 1) := by decide +kernel
theorem dL_law_261 : decode cL_law 261 = .ok (.iaload, 1) := by decide +kernel
theorem dL_law_262 : decode cL_law 262 = .ok (.aload_n 0, 1) := by decide +kernel
theorem dL_law_263 : decode cL_law 263 = .ok (.iload_n 3, 1) := by decide +kernel
theorem dL_law_264 : decode cL_law 264 = .ok (.iconst 2, 1) := by decide +kernel
theorem dL_law_265 : decode cL_law 265 = .ok (.iadd, 1) := by decide +kernel
theorem dL_law_266 : decode cL_law 266 = .ok (.iaload, 1) := by decide +kernel
theorem dL_law_267 : decode cL_law 267 = .ok (.invokevirtual 35, 3) := by decide +kernel
theorem dL_law_270 : decode cL_law 270 = .ok (.if_icmp .eq 739, 3) := by decide +kernel
theorem dL_law_273 : decode cL_law 273 = .ok (.iconst 0, 1) := by decide +kernel
theorem dL_law_274 : decode cL_law 274 = .ok (.ireturn, 1) := by decide +kernel
theorem dL_law_275 : decode cL_law 275 = .ok (.aload_n 1, 1) := by decide +kernel
theorem dL_law_276 : decode cL_law 276 = .ok (.aload_n 0, 1) := by decide +kernel
theorem dL_law_277 : decode cL_law 277 = .ok (.iload_n 3, 1) := by decide +kernel
theorem dL_law_278 : decode cL_law 278 = .ok (.iconst 1, 1) := by decide +kernel
theorem dL_law_279 : decode cL_law 279 = .ok (.iadd, 1) := by decide +kernel
theorem dL_law_280 : decode cL_law 280 = .ok (.iaload, 1) := by decide +kernel
theorem dL_law_281 : decode cL_law 281 = .ok (.aload_n 0, 1) := by decide +kernel
theorem dL_law_282 : decode cL_law 282 = .ok (.iload_n 3, 1) := by decide +kernel
theorem dL_law_283 : decode cL_law 283 = .ok (.iconst 2, 1) := by decide +kernel
theorem dL_law_284 : decode cL_law 284 = .ok (.iadd, 1) := by decide +kernel
theorem dL_law_285 : decode cL_law 285 = .ok (.iaload, 1) := by decide +kernel
theorem dL_law_286 : decode cL_law 286 = .ok (.invokevirtual 36, 3) := by decide +kernel
theorem dL_law_289 : decode cL_law 289 = .ok (.aload_n 2, 1) := by decide +kernel
theorem dL_law_290 : decode cL_law 290 = .ok (.aload_n 0, 1) := by decide +kernel
theorem dL_law_291 : decode cL_law 291 = .ok (.iload_n 3, 1) := by decide +kernel
theorem dL_law_292 : decode cL_law 292 = .ok (.iconst 1, 1) := by decide +kernel
theorem dL_law_293 : decode cL_law 293 = .ok (.iadd, 1) := by decide +kernel
theorem dL_law_294 : decode cL_law 294 = .ok (.iaload, 1) := by decide +kernel
theorem dL_law_295 : decode cL_law 295 = .ok (.aload_n 0, 1) := by decide +kernel
theorem dL_law_296 : decode cL_law 296 = .ok (.iload_n 3, 1) := by decide +kernel
theorem dL_law_297 : decode cL_law 297 = .ok (.iconst 2, 1) := by decide +kernel
theorem dL_law_298 : decode cL_law 298 = .ok (.iadd, 1) := by decide +kernel
theorem dL_law_299 : decode cL_law 299 = .ok (.iaload, 1) := by decide +kernel
theorem dL_law_300 : decode cL_law 300 = .ok (.invokevirtual 39, 3) := by decide +kernel
theorem dL_law_303 : decode cL_law 303 = .ok (.if_icmp .eq 706, 3) := by decide +kernel
theorem dL_law_306 : decode cL_law 306 = .ok (.iconst 0, 1) := by decide +kernel
theorem dL_law_307 : decode cL_law 307 = .ok (.ireturn, 1) := by decide +kernel
theorem dL_law_308 : decode cL_law 308 = .ok (.aload_n 1, 1) := by decide +kernel
theorem dL_law_309 : decode cL_law 309 = .ok (.aload_n 0, 1) := by decide +kernel
theorem dL_law_310 : decode cL_law 310 = .ok (.iload_n 3, 1) := by decide +kernel
theorem dL_law_311 : decode cL_law 311 = .ok (.iconst 1, 1) := by decide +kernel
theorem dL_law_312 : decode cL_law 312 = .ok (.iadd, 1) := by decide +kernel
theorem dL_law_313 : decode cL_law 313 = .ok (.iaload, 1) := by decide +kernel
theorem dL_law_314 : decode cL_law 314 = .ok (.aload_n 0, 1) := by decide +kernel
theorem dL_law_315 : decode cL_law 315 = .ok (.iload_n 3, 1) := by decide +kernel
theorem dL_law_316 : decode cL_law 316 = .ok (.iconst 2, 1) := by decide +kernel
theorem dL_law_317 : decode cL_law 317 = .ok (.iadd, 1) := by decide +kernel
theorem dL_law_318 : decode cL_law 318 = .ok (.iaload, 1) := by decide +kernel
theorem dL_law_319 : decode cL_law 319 = .ok (.aload_n 0, 1) := by decide +kernel
theorem dL_law_320 : decode cL_law 320 = .ok (.iload_n 3, 1) := by decide +kernel
theorem dL_law_321 : decode cL_law 321 = .ok (.iconst 3, 1) := by decide +kernel
theorem dL_law_322 : decode cL_law 322 = .ok (.iadd, 1) := by decide +kernel
theorem dL_law_323 : decode cL_law 323 = .ok (.iaload, 1) := by decide +kernel
theorem dL_law_324 : decode cL_law 324 = .ok (.invokevirtual 40, 3) := by decide +kernel
theorem dL_law_327 : decode cL_law 327 = .ok (.aload_n 2, 1) := by decide +kernel
theorem dL_law_328 : decode cL_law 328 = .ok (.aload_n 0, 1) := by decide +kernel
theorem dL_law_329 : decode cL_law 329 = .ok (.iload_n 3, 1) := by decide +kernel
theorem dL_law_330 : decode cL_law 330 = .ok (.iconst 1, 1) := by decide +kernel
theorem dL_law_331 : decode cL_law 331 = .ok (.iadd, 1) := by decide +kernel
theorem dL_law_332 : decode cL_law 332 = .ok (.iaload, 1) := by decide +kernel
theorem dL_law_333 : decode cL_law 333 = .ok (.aload_n 0, 1) := by decide +kernel
theorem dL_law_334 : decode cL_law 334 = .ok (.iload_n 3, 1) := by decide +kernel
theorem dL_law_335 : decode cL_law 335 = .ok (.iconst 2, 1) := by decide +kernel
theorem dL_law_336 : decode cL_law 336 = .ok (.iadd, 1) := by decide +kernel
theorem dL_law_337 : decode cL_law 337 = .ok (.iaload, 1) := by decide +kernel
theorem dL_law_338 : decode cL_law 338 = .ok (.aload_n 0, 1) := by decide +kernel
theorem dL_law_339 : decode cL_law 339 = .ok (.iload_n 3, 1) := by decide +kernel
theorem dL_law_340 : decode cL_law 340 = .ok (.iconst 3, 1) := by decide +kernel
theorem dL_law_341 : decode cL_law 341 = .ok (.iadd, 1) := by decide +kernel
theorem dL_law_342 : decode cL_law 342 = .ok (.iaload, 1) := by decide +kernel
theorem dL_law_343 : decode cL_law 343 = .ok (.invokevirtual 44, 3) := by decide +kernel
theorem dL_law_346 : decode cL_law 346 = .ok (.if_icmp .eq 663, 3) := by decide +kernel
theorem dL_law_349 : decode cL_law 349 = .ok (.iconst 0, 1) := by decide +kernel
theorem dL_law_350 : decode cL_law 350 = .ok (.ireturn, 1) := by decide +kernel
theorem dL_law_351 : decode cL_law 351 = .ok (.aload_n 1, 1) := by decide +kernel
theorem dL_law_352 : decode cL_law 352 = .ok (.aload_n 0, 1) := by decide +kernel
theorem dL_law_353 : decode cL_law 353 = .ok (.iload_n 3, 1) := by decide +kernel
theorem dL_law_354 : decode cL_law 354 = .ok (.iconst 1, 1) := by decide +kernel
theorem dL_law_355 : decode cL_law 355 = .ok (.iadd, 1) := by decide +kernel
theorem dL_law_356 : decode cL_law 356 = .ok (.iaload, 1) := by decide +kernel
theorem dL_law_357 : decode cL_law 357 = .ok (.aload_n 0, 1) := by decide +kernel
theorem dL_law_358 : decode cL_law 358 = .ok (.iload_n 3, 1) := by decide +kernel
theorem dL_law_359 : decode cL_law 359 = .ok (.iconst 2, 1) := by decide +kernel
theorem dL_law_360 : decode cL_law 360 = .ok (.iadd, 1) := by decide +kernel
theorem dL_law_361 : decode cL_law 361 = .ok (.iaload, 1) := by decide +kernel
theorem dL_law_362 : decode cL_law 362 = .ok (.invokevirtual 45, 3) := by decide +kernel
theorem dL_law_365 : decode cL_law 365 = .ok (.aload_n 2, 1) := by decide +kernel
theorem dL_law_366 : decode cL_law 366 = .ok (.aload_n 0, 1) := by decide +kernel
theorem dL_law_367 : decode cL_law 367 = .ok (.iload_n 3, 1) := by decide +kernel
theorem dL_law_368 : decode cL_law 368 = .ok (.iconst 1, 1) := by decide +kernel
theorem dL_law_369 : decode cL_law 369 = .ok (.iadd, 1) := by decide +kernel
theorem dL_law_370 : decode cL_law 370 = .ok (.iaload, 1) := by decide +kernel
theorem dL_law_371 : decode cL_law 371 = .ok (.aload_n 0, 1) := by decide +kernel
theorem dL_law_372 : decode cL_law 372 = .ok (.iload_n 3, 1) := by decide +kernel
theorem dL_law_373 : decode cL_law 373 = .ok (.iconst 2, 1) := by decide +kernel
theorem dL_law_374 : decode cL_law 374 = .ok (.iadd, 1) := by decide +kernel
theorem dL_law_375 : decode cL_law 375 = .ok (.iaload, 1) := by decide +kernel
theorem dL_law_376 : decode cL_law 376 = .ok (.invokevirtual 48, 3) := by decide +kernel
theorem dL_law_379 : decode cL_law 379 = .ok (.if_icmp .eq 630, 3) := by decide +kernel
theorem dL_law_382 : decode cL_law 382 = .ok (.iconst 0, 1) := by decide +kernel
theorem dL_law_383 : decode cL_law 383 = .ok (.ireturn, 1) := by decide +kernel
theorem dL_law_384 : decode cL_law 384 = .ok (.aload_n 1, 1) := by decide +kernel
theorem dL_law_385 : decode cL_law 385 = .ok (.aload_n 0, 1) := by decide +kernel
theorem dL_law_386 : decode cL_law 386 = .ok (.iload_n 3, 1) := by decide +kernel
theorem dL_law_387 : decode cL_law 387 = .ok (.iconst 1, 1) := by decide +kernel
theorem dL_law_388 : decode cL_law 388 = .ok (.iadd, 1) := by decide +kernel
theorem dL_law_389 : decode cL_law 389 = .ok (.iaload, 1) := by decide +kernel
theorem dL_law_390 : decode cL_law 390 = .ok (.invokevirtual 49, 3) := by decide +kernel
theorem dL_law_393 : decode cL_law 393 = .ok (.aload_n 2, 1) := by decide +kernel
theorem dL_law_394 : decode cL_law 394 = .ok (.aload_n 0, 1) := by decide +kernel
theorem dL_law_395 : decode cL_law 395 = .ok (.iload_n 3, 1) := by decide +kernel
theorem dL_law_396 : decode cL_law 396 = .ok (.iconst 1, 1) := by decide +kernel
theorem dL_law_397 : decode cL_law 397 = .ok (.iadd, 1) := by decide +kernel
theorem dL_law_398 : decode cL_law 398 = .ok (.iaload, 1) := by decide +kernel
theorem dL_law_399 : decode cL_law 399 = .ok (.invokevirtual 52, 3) := by decide +kernel
theorem dL_law_402 : decode cL_law 402 = .ok (.if_icmp .eq 607, 3) := by decide +kernel
theorem dL_law_405 : decode cL_law 405 = .ok (.iconst 0, 1) := by decide +kernel
theorem dL_law_406 : decode cL_law 406 = .ok (.ireturn, 1) := by decide +kernel
theorem dL_law_407 : decode cL_law 407 = .ok (.aload_n 1, 1) := by decide +kernel
theorem dL_law_408 : decode cL_law 408 = .ok (.invokevirtual 53, 3) := by decide +kernel
theorem dL_law_411 : decode cL_law 411 = .ok (.aload_n 2, 1) := by decide +kernel
theorem dL_law_412 : decode cL_law 412 = .ok (.invokevirtual 56, 3) := by decide +kernel
theorem dL_law_415 : decode cL_law 415 = .ok (.if_icmp .eq 594, 3) := by decide +kernel
theorem dL_law_418 : decode cL_law 418 = .ok (.iconst 0, 1) := by decide +kernel
theorem dL_law_419 : decode cL_law 419 = .ok (.ireturn, 1) := by decide +kernel
theorem dL_law_420 : decode cL_law 420 = .ok (.aload_n 1, 1) := by decide +kernel
theorem dL_law_421 : decode cL_law 421 = .ok (.aload_n 0, 1) := by decide +kernel
theorem dL_law_422 : decode cL_law 422 = .ok (.iload_n 3, 1) := by decide +kernel
theorem dL_law_423 : decode cL_law 423 = .ok (.iconst 1, 1) := by decide +kernel
theorem dL_law_424 : decode cL_law 424 = .ok (.iadd, 1) := by decide +kernel
theorem dL_law_425 : decode cL_law 425 = .ok (.iaload, 1) := by decide +kernel
theorem dL_law_426 : decode cL_law 426 = .ok (.aload_n 0, 1) := by decide +kernel
theorem dL_law_427 : decode cL_law 427 = .ok (.iload_n 3, 1) := by decide +kernel
theorem dL_law_428 : decode cL_law 428 = .ok (.iconst 2, 1) := by decide +kernel
theorem dL_law_429 : decode cL_law 429 = .ok (.iadd, 1) := by decide +kernel
theorem dL_law_430 : decode cL_law 430 = .ok (.iaload, 1) := by decide +kernel
theorem dL_law_431 : decode cL_law 431 = .ok (.aload_n 0, 1) := by decide +kernel
theorem dL_law_432 : decode cL_law 432 = .ok (.iload_n 3, 1) := by decide +kernel
theorem dL_law_433 : decode cL_law 433 = .ok (.iconst 3, 1) := by decide +kernel
theorem dL_law_434 : decode cL_law 434 = .ok (.iadd, 1) := by decide +kernel
theorem dL_law_435 : decode cL_law 435 = .ok (.iaload, 1) := by decide +kernel
theorem dL_law_436 : decode cL_law 436 = .ok (.invokevirtual 57, 3) := by decide +kernel
theorem dL_law_439 : decode cL_law 439 = .ok (.aload_n 2, 1) := by decide +kernel
theorem dL_law_440 : decode cL_law 440 = .ok (.aload_n 0, 1) := by decide +kernel
theorem dL_law_441 : decode cL_law 441 = .ok (.iload_n 3, 1) := by decide +kernel
theorem dL_law_442 : decode cL_law 442 = .ok (.iconst 1, 1) := by decide +kernel
theorem dL_law_443 : decode cL_law 443 = .ok (.iadd, 1) := by decide +kernel
theorem dL_law_444 : decode cL_law 444 = .ok (.iaload, 1) := by decide +kernel
theorem dL_law_445 : decode cL_law 445 = .ok (.aload_n 0, 1) := by decide +kernel
theorem dL_law_446 : decode cL_law 446 = .ok (.iload_n 3, 1) := by decide +kernel
theorem dL_law_447 : decode cL_law 447 = .ok (.iconst 2, 1) := by decide +kernel
theorem dL_law_448 : decode cL_law 448 = .ok (.iadd, 1) := by decide +kernel
theorem dL_law_449 : decode cL_law 449 = .ok (.iaload, 1) := by decide +kernel
theorem dL_law_450 : decode cL_law 450 = .ok (.aload_n 0, 1) := by decide +kernel
theorem dL_law_451 : decode cL_law 451 = .ok (.iload_n 3, 1) := by decide +kernel
theorem dL_law_452 : decode cL_law 452 = .ok (.iconst 3, 1) := by decide +kernel
theorem dL_law_453 : decode cL_law 453 = .ok (.iadd, 1) := by decide +kernel
theorem dL_law_454 : decode cL_law 454 = .ok (.iaload, 1) := by decide +kernel
theorem dL_law_455 : decode cL_law 455 = .ok (.invokevirtual 60, 3) := by decide +kernel
theorem dL_law_458 : decode cL_law 458 = .ok (.if_icmp .eq 551, 3) := by decide +kernel
theorem dL_law_461 : decode cL_law 461 = .ok (.iconst 0, 1) := by decide +kernel
theorem dL_law_462 : decode cL_law 462 = .ok (.ireturn, 1) := by decide +kernel
theorem dL_law_463 : decode cL_law 463 = .ok (.aload_n 1, 1) := by decide +kernel
theorem dL_law_464 : decode cL_law 464 = .ok (.aload_n 0, 1) := by decide +kernel
theorem dL_law_465 : decode cL_law 465 = .ok (.iload_n 3, 1) := by decide +kernel
theorem dL_law_466 : decode cL_law 466 = .ok (.iconst 1, 1) := by decide +kernel
theorem dL_law_467 : decode cL_law 467 = .ok (.iadd, 1) := by decide +kernel
theorem dL_law_468 : decode cL_law 468 = .ok (.iaload, 1) := by decide +kernel
theorem dL_law_469 : decode cL_law 469 = .ok (.invokevirtual 61, 3) := by decide +kernel
theorem dL_law_472 : decode cL_law 472 = .ok (.aload_n 2, 1) := by decide +kernel
theorem dL_law_473 : decode cL_law 473 = .ok (.aload_n 0, 1) := by decide +kernel
theorem dL_law_474 : decode cL_law 474 = .ok (.iload_n 3, 1) := by decide +kernel
theorem dL_law_475 : decode cL_law 475 = .ok (.iconst 1, 1) := by decide +kernel
theorem dL_law_476 : decode cL_law 476 = .ok (.iadd, 1) := by decide +kernel
theorem dL_law_477 : decode cL_law 477 = .ok (.iaload, 1) := by decide +kernel
theorem dL_law_478 : decode cL_law 478 = .ok (.invokevirtual 64, 3) := by decide +kernel
theorem dL_law_481 : decode cL_law 481 = .ok (.if_icmp .eq 528, 3) := by decide +kernel
theorem dL_law_484 : decode cL_law 484 = .ok (.iconst 0, 1) := by decide +kernel
theorem dL_law_485 : decode cL_law 485 = .ok (.ireturn, 1) := by decide +kernel
theorem dL_law_486 : decode cL_law 486 = .ok (.aload_n 1, 1) := by decide +kernel
theorem dL_law_487 : decode cL_law 487 = .ok (.aload_n 0, 1) := by decide +kernel
theorem dL_law_488 : decode cL_law 488 = .ok (.iload_n 3, 1) := by decide +kernel
theorem dL_law_489 : decode cL_law 489 = .ok (.iconst 1, 1) := by decide +kernel
theorem dL_law_490 : decode cL_law 490 = .ok (.iadd, 1) := by decide +kernel
theorem dL_law_491 : decode cL_law 491 = .ok (.iaload, 1) := by decide +kernel
theorem dL_law_492 : decode cL_law 492 = .ok (.aload_n 0, 1) := by decide +kernel
theorem dL_law_493 : decode cL_law 493 = .ok (.iload_n 3, 1) := by decide +kernel
theorem dL_law_494 : decode cL_law 494 = .ok (.iconst 2, 1) := by decide +kernel
theorem dL_law_495 : decode cL_law 495 = .ok (.iadd, 1) := by decide +kernel
theorem dL_law_496 : decode cL_law 496 = .ok (.iaload, 1) := by decide +kernel
theorem dL_law_497 : decode cL_law 497 = .ok (.invokevirtual 65, 3) := by decide +kernel
theorem dL_law_500 : decode cL_law 500 = .ok (.aload_n 2, 1) := by decide +kernel
theorem dL_law_501 : decode cL_law 501 = .ok (.aload_n 0, 1) := by decide +kernel
theorem dL_law_502 : decode cL_law 502 = .ok (.iload_n 3, 1) := by decide +kernel
theorem dL_law_503 : decode cL_law 503 = .ok (.iconst 1, 1) := by decide +kernel
theorem dL_law_504 : decode cL_law 504 = .ok (.iadd, 1) := by decide +kernel
theorem dL_law_505 : decode cL_law 505 = .ok (.iaload, 1) := by decide +kernel
theorem dL_law_506 : decode cL_law 506 = .ok (.aload_n 0, 1) := by decide +kernel
theorem dL_law_507 : decode cL_law 507 = .ok (.iload_n 3, 1) := by decide +kernel
theorem dL_law_508 : decode cL_law 508 = .ok (.iconst 2, 1) := by decide +kernel
theorem dL_law_509 : decode cL_law 509 = .ok (.iadd, 1) := by decide +kernel
theorem dL_law_510 : decode cL_law 510 = .ok (.iaload, 1) := by decide +kernel
theorem dL_law_511 : decode cL_law 511 = .ok (.invokevirtual 68, 3) := by decide +kernel
theorem dL_law_514 : decode cL_law 514 = .ok (.if_icmp .eq 495, 3) := by decide +kernel
theorem dL_law_517 : decode cL_law 517 = .ok (.iconst 0, 1) := by decide +kernel
theorem dL_law_518 : decode cL_law 518 = .ok (.ireturn, 1) := by decide +kernel
theorem dL_law_519 : decode cL_law 519 = .ok (.aload_n 1, 1) := by decide +kernel
theorem dL_law_520 : decode cL_law 520 = .ok (.aload_n 0, 1) := by decide +kernel
theorem dL_law_521 : decode cL_law 521 = .ok (.iload_n 3, 1) := by decide +kernel
theorem dL_law_522 : decode cL_law 522 = .ok (.iconst 1, 1) := by decide +kernel
theorem dL_law_523 : decode cL_law 523 = .ok (.iadd, 1) := by decide +kernel
theorem dL_law_524 : decode cL_law 524 = .ok (.iaload, 1) := by decide +kernel
theorem dL_law_525 : decode cL_law 525 = .ok (.invokevirtual 69, 3) := by decide +kernel
theorem dL_law_528 : decode cL_law 528 = .ok (.aload_n 2, 1) := by decide +kernel
theorem dL_law_529 : decode cL_law 529 = .ok (.aload_n 0, 1) := by decide +kernel
theorem dL_law_530 : decode cL_law 530 = .ok (.iload_n 3, 1) := by decide +kernel
theorem dL_law_531 : decode cL_law 531 = .ok (.iconst 1, 1) := by decide +kernel
theorem dL_law_532 : decode cL_law 532 = .ok (.iadd, 1) := by decide +kernel
theorem dL_law_533 : decode cL_law 533 = .ok (.iaload, 1) := by decide +kernel
theorem dL_law_534 : decode cL_law 534 = .ok (.invokevirtual 72, 3) := by decide +kernel
theorem dL_law_537 : decode cL_law 537 = .ok (.if_icmp .eq 472, 3) := by decide +kernel
theorem dL_law_540 : decode cL_law 540 = .ok (.iconst 0, 1) := by decide +kernel
theorem dL_law_541 : decode cL_law 541 = .ok (.ireturn, 1) := by decide +kernel
theorem dL_law_542 : decode cL_law 542 = .ok (.aload_n 1, 1) := by decide +kernel
theorem dL_law_543 : decode cL_law 543 = .ok (.invokevirtual 73, 3) := by decide +kernel
theorem dL_law_546 : decode cL_law 546 = .ok (.aload_n 2, 1) := by decide +kernel
theorem dL_law_547 : decode cL_law 547 = .ok (.invokevirtual 76, 3) := by decide +kernel
theorem dL_law_550 : decode cL_law 550 = .ok (.if_icmp .eq 459, 3) := by decide +kernel
theorem dL_law_553 : decode cL_law 553 = .ok (.iconst 0, 1) := by decide +kernel
theorem dL_law_554 : decode cL_law 554 = .ok (.ireturn, 1) := by decide +kernel
theorem dL_law_555 : decode cL_law 555 = .ok (.aload_n 1, 1) := by decide +kernel
theorem dL_law_556 : decode cL_law 556 = .ok (.aload_n 0, 1) := by decide +kernel
theorem dL_law_557 : decode cL_law 557 = .ok (.iload_n 3, 1) := by decide +kernel
theorem dL_law_558 : decode cL_law 558 = .ok (.iconst 1, 1) := by decide +kernel
theorem dL_law_559 : decode cL_law 559 = .ok (.iadd, 1) := by decide +kernel
theorem dL_law_560 : decode cL_law 560 = .ok (.iaload, 1) := by decide +kernel
theorem dL_law_561 : decode cL_law 561 = .ok (.invokevirtual 77, 3) := by decide +kernel
theorem dL_law_564 : decode cL_law 564 = .ok (.aload_n 2, 1) := by decide +kernel
theorem dL_law_565 : decode cL_law 565 = .ok (.aload_n 0, 1) := by decide +kernel
theorem dL_law_566 : decode cL_law 566 = .ok (.iload_n 3, 1) := by decide +kernel
theorem dL_law_567 : decode cL_law 567 = .ok (.iconst 1, 1) := by decide +kernel
theorem dL_law_568 : decode cL_law 568 = .ok (.iadd, 1) := by decide +kernel
theorem dL_law_569 : decode cL_law 569 = .ok (.iaload, 1) := by decide +kernel
theorem dL_law_570 : decode cL_law 570 = .ok (.invokevirtual 80, 3) := by decide +kernel
theorem dL_law_573 : decode cL_law 573 = .ok (.if_icmp .eq 436, 3) := by decide +kernel
theorem dL_law_576 : decode cL_law 576 = .ok (.iconst 0, 1) := by decide +kernel
theorem dL_law_577 : decode cL_law 577 = .ok (.ireturn, 1) := by decide +kernel
theorem dL_law_578 : decode cL_law 578 = .ok (.aload_n 1, 1) := by decide +kernel
theorem dL_law_579 : decode cL_law 579 = .ok (.aload_n 0, 1) := by decide +kernel
theorem dL_law_580 : decode cL_law 580 = .ok (.iload_n 3, 1) := by decide +kernel
theorem dL_law_581 : decode cL_law 581 = .ok (.iconst 1, 1) := by decide +kernel
theorem dL_law_582 : decode cL_law 582 = .ok (.iadd, 1) := by decide +kernel
theorem dL_law_583 : decode cL_law 583 = .ok (.iaload, 1) := by decide +kernel
theorem dL_law_584 : decode cL_law 584 = .ok (.aload_n 0, 1) := by decide +kernel
theorem dL_law_585 : decode cL_law 585 = .ok (.iload_n 3, 1) := by decide +kernel
theorem dL_law_586 : decode cL_law 586 = .ok (.iconst 2, 1) := by decide +kernel
theorem dL_law_587 : decode cL_law 587 = .ok (.iadd, 1) := by decide +kernel
theorem dL_law_588 : decode cL_law 588 = .ok (.iaload, 1) := by decide +kernel
theorem dL_law_589 : decode cL_law 589 = .ok (.invokevirtual 81, 3) := by decide +kernel
theorem dL_law_592 : decode cL_law 592 = .ok (.aload_n 2, 1) := by decide +kernel
theorem dL_law_593 : decode cL_law 593 = .ok (.aload_n 0, 1) := by decide +kernel
theorem dL_law_594 : decode cL_law 594 = .ok (.iload_n 3, 1) := by decide +kernel
theorem dL_law_595 : decode cL_law 595 = .ok (.iconst 1, 1) := by decide +kernel
theorem dL_law_596 : decode cL_law 596 = .ok (.iadd, 1) := by decide +kernel
theorem dL_law_597 : decode cL_law 597 = .ok (.iaload, 1) := by decide +kernel
theorem dL_law_598 : decode cL_law 598 = .ok (.aload_n 0, 1) := by decide +kernel
theorem dL_law_599 : decode cL_law 599 = .ok (.iload_n 3, 1) := by decide +kernel
theorem dL_law_600 : decode cL_law 600 = .ok (.iconst 2, 1) := by decide +kernel
theorem dL_law_601 : decode cL_law 601 = .ok (.iadd, 1) := by decide +kernel
theorem dL_law_602 : decode cL_law 602 = .ok (.iaload, 1) := by decide +kernel
theorem dL_law_603 : decode cL_law 603 = .ok (.invokevirtual 84, 3) := by decide +kernel
theorem dL_law_606 : decode cL_law 606 = .ok (.if_icmp .eq 403, 3) := by decide +kernel
theorem dL_law_609 : decode cL_law 609 = .ok (.iconst 0, 1) := by decide +kernel
theorem dL_law_610 : decode cL_law 610 = .ok (.ireturn, 1) := by decide +kernel
theorem dL_law_611 : decode cL_law 611 = .ok (.aload_n 1, 1) := by decide +kernel
theorem dL_law_612 : decode cL_law 612 = .ok (.invokevirtual 85, 3) := by decide +kernel
theorem dL_law_615 : decode cL_law 615 = .ok (.aload_n 2, 1) := by decide +kernel
theorem dL_law_616 : decode cL_law 616 = .ok (.invokevirtual 88, 3) := by decide +kernel
theorem dL_law_619 : decode cL_law 619 = .ok (.if_icmp .eq 390, 3) := by decide +kernel
theorem dL_law_622 : decode cL_law 622 = .ok (.iconst 0, 1) := by decide +kernel
theorem dL_law_623 : decode cL_law 623 = .ok (.ireturn, 1) := by decide +kernel
theorem dL_law_624 : decode cL_law 624 = .ok (.aload_n 1, 1) := by decide +kernel
theorem dL_law_625 : decode cL_law 625 = .ok (.aload_n 0, 1) := by decide +kernel
theorem dL_law_626 : decode cL_law 626 = .ok (.iload_n 3, 1) := by decide +kernel
theorem dL_law_627 : decode cL_law 627 = .ok (.iconst 1, 1) := by decide +kernel
theorem dL_law_628 : decode cL_law 628 = .ok (.iadd, 1) := by decide +kernel
theorem dL_law_629 : decode cL_law 629 = .ok (.iaload, 1) := by decide +kernel
theorem dL_law_630 : decode cL_law 630 = .ok (.invokevirtual 89, 3) := by decide +kernel
theorem dL_law_633 : decode cL_law 633 = .ok (.aload_n 2, 1) := by decide +kernel
theorem dL_law_634 : decode cL_law 634 = .ok (.aload_n 0, 1) := by decide +kernel
theorem dL_law_635 : decode cL_law 635 = .ok (.iload_n 3, 1) := by decide +kernel
theorem dL_law_636 : decode cL_law 636 = .ok (.iconst 1, 1) := by decide +kernel
theorem dL_law_637 : decode cL_law 637 = .ok (.iadd, 1) := by decide +kernel
theorem dL_law_638 : decode cL_law 638 = .ok (.iaload, 1) := by decide +kernel
theorem dL_law_639 : decode cL_law 639 = .ok (.invokevirtual 92, 3) := by decide +kernel
theorem dL_law_642 : decode cL_law 642 = .ok (.if_icmp .eq 367, 3) := by decide +kernel
theorem dL_law_645 : decode cL_law 645 = .ok (.iconst 0, 1) := by decide +kernel
theorem dL_law_646 : decode cL_law 646 = .ok (.ireturn, 1) := by decide +kernel
theorem dL_law_647 : decode cL_law 647 = .ok (.aload_n 1, 1) := by decide +kernel
theorem dL_law_648 : decode cL_law 648 = .ok (.aload_n 0, 1) := by decide +kernel
theorem dL_law_649 : decode cL_law 649 = .ok (.iload_n 3, 1) := by decide +kernel
theorem dL_law_650 : decode cL_law 650 = .ok (.iconst 1, 1) := by decide +kernel
theorem dL_law_651 : decode cL_law 651 = .ok (.iadd, 1) := by decide +kernel
theorem dL_law_652 : decode cL_law 652 = .ok (.iaload, 1) := by decide +kernel
theorem dL_law_653 : decode cL_law 653 = .ok (.invokevirtual 93, 3) := by decide +kernel
theorem dL_law_656 : decode cL_law 656 = .ok (.aload_n 2, 1) := by decide +kernel
theorem dL_law_657 : decode cL_law 657 = .ok (.aload_n 0, 1) := by decide +kernel
theorem dL_law_658 : decode cL_law 658 = .ok (.iload_n 3, 1) := by decide +kernel
theorem dL_law_659 : decode cL_law 659 = .ok (.iconst 1, 1) := by decide +kernel
theorem dL_law_660 : decode cL_law 660 = .ok (.iadd, 1) := by decide +kernel
theorem dL_law_661 : decode cL_law 661 = .ok (.iaload, 1) := by decide +kernel
theorem dL_law_662 : decode cL_law 662 = .ok (.invokevirtual 96, 3) := by decide +kernel
theorem dL_law_665 : decode cL_law 665 = .ok (.if_icmp .eq 344, 3) := by decide +kernel
theorem dL_law_668 : decode cL_law 668 = .ok (.iconst 0, 1) := by decide +kernel
theorem dL_law_669 : decode cL_law 669 = .ok (.ireturn, 1) := by decide +kernel
theorem dL_law_670 : decode cL_law 670 = .ok (.aload_n 1, 1) := by decide +kernel
theorem dL_law_671 : decode cL_law 671 = .ok (.aload_n 0, 1) := by decide +kernel
theorem dL_law_672 : decode cL_law 672 = .ok (.iload_n 3, 1) := by decide +kernel
theorem dL_law_673 : decode cL_law 673 = .ok (.iconst 1, 1) := by decide +kernel
theorem dL_law_674 : decode cL_law 674 = .ok (.iadd, 1) := by decide +kernel
theorem dL_law_675 : decode cL_law 675 = .ok (.iaload, 1) := by decide +kernel
theorem dL_law_676 : decode cL_law 676 = .ok (.invokevirtual 97, 3) := by decide +kernel
theorem dL_law_679 : decode cL_law 679 = .ok (.aload_n 2, 1) := by decide +kernel
theorem dL_law_680 : decode cL_law 680 = .ok (.aload_n 0, 1) := by decide +kernel
theorem dL_law_681 : decode cL_law 681 = .ok (.iload_n 3, 1) := by decide +kernel
theorem dL_law_682 : decode cL_law 682 = .ok (.iconst 1, 1) := by decide +kernel
theorem dL_law_683 : decode cL_law 683 = .ok (.iadd, 1) := by decide +kernel
theorem dL_law_684 : decode cL_law 684 = .ok (.iaload, 1) := by decide +kernel
theorem dL_law_685 : decode cL_law 685 = .ok (.invokevirtual 100, 3) := by decide +kernel
theorem dL_law_688 : decode cL_law 688 = .ok (.if_icmp .eq 321, 3) := by decide +kernel
theorem dL_law_691 : decode cL_law 691 = .ok (.iconst 0, 1) := by decide +kernel
theorem dL_law_692 : decode cL_law 692 = .ok (.ireturn, 1) := by decide +kernel
theorem dL_law_693 : decode cL_law 693 = .ok (.aload_n 1, 1) := by decide +kernel
theorem dL_law_694 : decode cL_law 694 = .ok (.aload_n 0, 1) := by decide +kernel
theorem dL_law_695 : decode cL_law 695 = .ok (.iload_n 3, 1) := by decide +kernel
theorem dL_law_696 : decode cL_law 696 = .ok (.iconst 1, 1) := by decide +kernel
theorem dL_law_697 : decode cL_law 697 = .ok (.iadd, 1) := by decide +kernel
theorem dL_law_698 : decode cL_law 698 = .ok (.iaload, 1) := by decide +kernel
theorem dL_law_699 : decode cL_law 699 = .ok (.aload_n 0, 1) := by decide +kernel
theorem dL_law_700 : decode cL_law 700 = .ok (.iload_n 3, 1) := by decide +kernel
theorem dL_law_701 : decode cL_law 701 = .ok (.iconst 2, 1) := by decide +kernel
theorem dL_law_702 : decode cL_law 702 = .ok (.iadd, 1) := by decide +kernel
theorem dL_law_703 : decode cL_law 703 = .ok (.iaload, 1) := by decide +kernel
theorem dL_law_704 : decode cL_law 704 = .ok (.invokevirtual 101, 3) := by decide +kernel
theorem dL_law_707 : decode cL_law 707 = .ok (.aload_n 2, 1) := by decide +kernel
theorem dL_law_708 : decode cL_law 708 = .ok (.aload_n 0, 1) := by decide +kernel
theorem dL_law_709 : decode cL_law 709 = .ok (.iload_n 3, 1) := by decide +kernel
theorem dL_law_710 : decode cL_law 710 = .ok (.iconst 1, 1) := by decide +kernel
theorem dL_law_711 : decode cL_law 711 = .ok (.iadd, 1) := by decide +kernel
theorem dL_law_712 : decode cL_law 712 = .ok (.iaload, 1) := by decide +kernel
theorem dL_law_713 : decode cL_law 713 = .ok (.aload_n 0, 1) := by decide +kernel
theorem dL_law_714 : decode cL_law 714 = .ok (.iload_n 3, 1) := by decide +kernel
theorem dL_law_715 : decode cL_law 715 = .ok (.iconst 2, 1) := by decide +kernel
theorem dL_law_716 : decode cL_law 716 = .ok (.iadd, 1) := by decide +kernel
theorem dL_law_717 : decode cL_law 717 = .ok (.iaload, 1) := by decide +kernel
theorem dL_law_718 : decode cL_law 718 = .ok (.invokevirtual 104, 3) := by decide +kernel
theorem dL_law_721 : decode cL_law 721 = .ok (.if_icmp .eq 288, 3) := by decide +kernel
theorem dL_law_724 : decode cL_law 724 = .ok (.iconst 0, 1) := by decide +kernel
theorem dL_law_725 : decode cL_law 725 = .ok (.ireturn, 1) := by decide +kernel
theorem dL_law_726 : decode cL_law 726 = .ok (.aload_n 1, 1) := by decide +kernel
theorem dL_law_727 : decode cL_law 727 = .ok (.aload_n 0, 1) := by decide +kernel
theorem dL_law_728 : decode cL_law 728 = .ok (.iload_n 3, 1) := by decide +kernel
theorem dL_law_729 : decode cL_law 729 = .ok (.iconst 1, 1) := by decide +kernel
theorem dL_law_730 : decode cL_law 730 = .ok (.iadd, 1) := by decide +kernel
theorem dL_law_731 : decode cL_law 731 = .ok (.iaload, 1) := by decide +kernel
theorem dL_law_732 : decode cL_law 732 = .ok (.aload_n 0, 1) := by decide +kernel
theorem dL_law_733 : decode cL_law 733 = .ok (.iload_n 3, 1) := by decide +kernel
theorem dL_law_734 : decode cL_law 734 = .ok (.iconst 2, 1) := by decide +kernel
theorem dL_law_735 : decode cL_law 735 = .ok (.iadd, 1) := by decide +kernel
theorem dL_law_736 : decode cL_law 736 = .ok (.iaload, 1) := by decide +kernel
theorem dL_law_737 : decode cL_law 737 = .ok (.aload_n 0, 1) := by decide +kernel
theorem dL_law_738 : decode cL_law 738 = .ok (.iload_n 3, 1) := by decide +kernel
theorem dL_law_739 : decode cL_law 739 = .ok (.iconst 3, 1) := by decide +kernel
theorem dL_law_740 : decode cL_law 740 = .ok (.iadd, 1) := by decide +kernel
theorem dL_law_741 : decode cL_law 741 = .ok (.iaload, 1) := by decide +kernel
theorem dL_law_742 : decode cL_law 742 = .ok (.invokevirtual 105, 3) := by decide +kernel
theorem dL_law_745 : decode cL_law 745 = .ok (.aload_n 2, 1) := by decide +kernel
theorem dL_law_746 : decode cL_law 746 = .ok (.aload_n 0, 1) := by decide +kernel
theorem dL_law_747 : decode cL_law 747 = .ok (.iload_n 3, 1) := by decide +kernel
theorem dL_law_748 : decode cL_law 748 = .ok (.iconst 1, 1) := by decide +kernel
theorem dL_law_749 : decode cL_law 749 = .ok (.iadd, 1) := by decide +kernel
theorem dL_law_750 : decode cL_law 750 = .ok (.iaload, 1) := by decide +kernel
theorem dL_law_751 : decode cL_law 751 = .ok (.aload_n 0, 1) := by decide +kernel
theorem dL_law_752 : decode cL_law 752 = .ok (.iload_n 3, 1) := by decide +kernel
theorem dL_law_753 : decode cL_law 753 = .ok (.iconst 2, 1) := by decide +kernel
theorem dL_law_754 : decode cL_law 754 = .ok (.iadd, 1) := by decide +kernel
theorem dL_law_755 : decode cL_law 755 = .ok (.iaload, 1) := by decide +kernel
theorem dL_law_756 : decode cL_law 756 = .ok (.aload_n 0, 1) := by decide +kernel
theorem dL_law_757 : decode cL_law 757 = .ok (.iload_n 3, 1) := by decide +kernel
theorem dL_law_758 : decode cL_law 758 = .ok (.iconst 3, 1) := by decide +kernel
theorem dL_law_759 : decode cL_law 759 = .ok (.iadd, 1) := by decide +kernel
theorem dL_law_760 : decode cL_law 760 = .ok (.iaload, 1) := by decide +kernel
theorem dL_law_761 : decode cL_law 761 = .ok (.invokevirtual 108, 3) := by decide +kernel
theorem dL_law_764 : decode cL_law 764 = .ok (.if_icmp .eq 245, 3) := by decide +kernel
theorem dL_law_767 : decode cL_law 767 = .ok (.iconst 0, 1) := by decide +kernel
theorem dL_law_768 : decode cL_law 768 = .ok (.ireturn, 1) := by decide +kernel
theorem dL_law_769 : decode cL_law 769 = .ok (.aload_n 1, 1) := by decide +kernel
theorem dL_law_770 : decode cL_law 770 = .ok (.invokevirtual 109, 3) := by decide +kernel
theorem dL_law_773 : decode cL_law 773 = .ok (.aload_n 2, 1) := by decide +kernel
theorem dL_law_774 : decode cL_law 774 = .ok (.invokevirtual 112, 3) := by decide +kernel
theorem dL_law_777 : decode cL_law 777 = .ok (.if_icmp .eq 232, 3) := by decide +kernel
theorem dL_law_780 : decode cL_law 780 = .ok (.iconst 0, 1) := by decide +kernel
theorem dL_law_781 : decode cL_law 781 = .ok (.ireturn, 1) := by decide +kernel
theorem dL_law_782 : decode cL_law 782 = .ok (.aload_n 1, 1) := by decide +kernel
theorem dL_law_783 : decode cL_law 783 = .ok (.invokevirtual 113, 3) := by decide +kernel
theorem dL_law_786 : decode cL_law 786 = .ok (.aload_n 2, 1) := by decide +kernel
theorem dL_law_787 : decode cL_law 787 = .ok (.invokevirtual 116, 3) := by decide +kernel
theorem dL_law_790 : decode cL_law 790 = .ok (.if_icmp .eq 219, 3) := by decide +kernel
theorem dL_law_793 : decode cL_law 793 = .ok (.iconst 0, 1) := by decide +kernel
theorem dL_law_794 : decode cL_law 794 = .ok (.ireturn, 1) := by decide +kernel
theorem dL_law_795 : decode cL_law 795 = .ok (.aload_n 1, 1) := by decide +kernel
theorem dL_law_796 : decode cL_law 796 = .ok (.aload_n 0, 1) := by decide +kernel
theorem dL_law_797 : decode cL_law 797 = .ok (.iload_n 3, 1) := by decide +kernel
theorem dL_law_798 : decode cL_law 798 = .ok (.iconst 1, 1) := by decide +kernel
theorem dL_law_799 : decode cL_law 799 = .ok (.iadd, 1) := by decide +kernel
theorem dL_law_800 : decode cL_law 800 = .ok (.iaload, 1) := by decide +kernel
theorem dL_law_801 : decode cL_law 801 = .ok (.aload_n 0, 1) := by decide +kernel
theorem dL_law_802 : decode cL_law 802 = .ok (.iload_n 3, 1) := by decide +kernel
theorem dL_law_803 : decode cL_law 803 = .ok (.iconst 2, 1) := by decide +kernel
theorem dL_law_804 : decode cL_law 804 = .ok (.iadd, 1) := by decide +kernel
theorem dL_law_805 : decode cL_law 805 = .ok (.iaload, 1) := by decide +kernel
theorem dL_law_806 : decode cL_law 806 = .ok (.aload_n 0, 1) := by decide +kernel
theorem dL_law_807 : decode cL_law 807 = .ok (.iload_n 3, 1) := by decide +kernel
theorem dL_law_808 : decode cL_law 808 = .ok (.iconst 3, 1) := by decide +kernel
theorem dL_law_809 : decode cL_law 809 = .ok (.iadd, 1) := by decide +kernel
theorem dL_law_810 : decode cL_law 810 = .ok (.iaload, 1) := by decide +kernel
theorem dL_law_811 : decode cL_law 811 = .ok (.invokevirtual 117, 3) := by decide +kernel
theorem dL_law_814 : decode cL_law 814 = .ok (.aload_n 2, 1) := by decide +kernel
theorem dL_law_815 : decode cL_law 815 = .ok (.aload_n 0, 1) := by decide +kernel
theorem dL_law_816 : decode cL_law 816 = .ok (.iload_n 3, 1) := by decide +kernel
theorem dL_law_817 : decode cL_law 817 = .ok (.iconst 1, 1) := by decide +kernel
theorem dL_law_818 : decode cL_law 818 = .ok (.iadd, 1) := by decide +kernel
theorem dL_law_819 : decode cL_law 819 = .ok (.iaload, 1) := by decide +kernel
theorem dL_law_820 : decode cL_law 820 = .ok (.aload_n 0, 1) := by decide +kernel
theorem dL_law_821 : decode cL_law 821 = .ok (.iload_n 3, 1) := by decide +kernel
theorem dL_law_822 : decode cL_law 822 = .ok (.iconst 2, 1) := by decide +kernel
theorem dL_law_823 : decode cL_law 823 = .ok (.iadd, 1) := by decide +kernel
theorem dL_law_824 : decode cL_law 824 = .ok (.iaload, 1) := by decide +kernel
theorem dL_law_825 : decode cL_law 825 = .ok (.aload_n 0, 1) := by decide +kernel
theorem dL_law_826 : decode cL_law 826 = .ok (.iload_n 3, 1) := by decide +kernel
theorem dL_law_827 : decode cL_law 827 = .ok (.iconst 3, 1) := by decide +kernel
theorem dL_law_828 : decode cL_law 828 = .ok (.iadd, 1) := by decide +kernel
theorem dL_law_829 : decode cL_law 829 = .ok (.iaload, 1) := by decide +kernel
theorem dL_law_830 : decode cL_law 830 = .ok (.invokevirtual 120, 3) := by decide +kernel
theorem dL_law_833 : decode cL_law 833 = .ok (.if_icmp .eq 176, 3) := by decide +kernel
theorem dL_law_836 : decode cL_law 836 = .ok (.iconst 0, 1) := by decide +kernel
theorem dL_law_837 : decode cL_law 837 = .ok (.ireturn, 1) := by decide +kernel
theorem dL_law_838 : decode cL_law 838 = .ok (.aload_n 1, 1) := by decide +kernel
theorem dL_law_839 : decode cL_law 839 = .ok (.aload_n 0, 1) := by decide +kernel
theorem dL_law_840 : decode cL_law 840 = .ok (.iload_n 3, 1) := by decide +kernel
theorem dL_law_841 : decode cL_law 841 = .ok (.iconst 1, 1) := by decide +kernel
theorem dL_law_842 : decode cL_law 842 = .ok (.iadd, 1) := by decide +kernel
theorem dL_law_843 : decode cL_law 843 = .ok (.iaload, 1) := by decide +kernel
theorem dL_law_844 : decode cL_law 844 = .ok (.invokevirtual 121, 3) := by decide +kernel
theorem dL_law_847 : decode cL_law 847 = .ok (.aload_n 2, 1) := by decide +kernel
theorem dL_law_848 : decode cL_law 848 = .ok (.aload_n 0, 1) := by decide +kernel
theorem dL_law_849 : decode cL_law 849 = .ok (.iload_n 3, 1) := by decide +kernel
theorem dL_law_850 : decode cL_law 850 = .ok (.iconst 1, 1) := by decide +kernel
theorem dL_law_851 : decode cL_law 851 = .ok (.iadd, 1) := by decide +kernel
theorem dL_law_852 : decode cL_law 852 = .ok (.iaload, 1) := by decide +kernel
theorem dL_law_853 : decode cL_law 853 = .ok (.invokevirtual 124, 3) := by decide +kernel
theorem dL_law_856 : decode cL_law 856 = .ok (.if_icmp .eq 153, 3) := by decide +kernel
theorem dL_law_859 : decode cL_law 859 = .ok (.iconst 0, 1) := by decide +kernel
theorem dL_law_860 : decode cL_law 860 = .ok (.ireturn, 1) := by decide +kernel
theorem dL_law_861 : decode cL_law 861 = .ok (.aload_n 1, 1) := by decide +kernel
theorem dL_law_862 : decode cL_law 862 = .ok (.invokevirtual 125, 3) := by decide +kernel
theorem dL_law_865 : decode cL_law 865 = .ok (.aload_n 2, 1) := by decide +kernel
theorem dL_law_866 : decode cL_law 866 = .ok (.invokevirtual 128, 3) := by decide +kernel
theorem dL_law_869 : decode cL_law 869 = .ok (.if_icmp .eq 140, 3) := by decide +kernel
theorem dL_law_872 : decode cL_law 872 = .ok (.iconst 0, 1) := by decide +kernel
theorem dL_law_873 : decode cL_law 873 = .ok (.ireturn, 1) := by decide +kernel
theorem dL_law_874 : decode cL_law 874 = .ok (.aload_n 1, 1) := by decide +kernel
theorem dL_law_875 : decode cL_law 875 = .ok (.aload_n 0, 1) := by decide +kernel
theorem dL_law_876 : decode cL_law 876 = .ok (.iload_n 3, 1) := by decide +kernel
theorem dL_law_877 : decode cL_law 877 = .ok (.iconst 1, 1) := by decide +kernel
theorem dL_law_878 : decode cL_law 878 = .ok (.iadd, 1) := by decide +kernel
theorem dL_law_879 : decode cL_law 879 = .ok (.iaload, 1) := by decide +kernel
theorem dL_law_880 : decode cL_law 880 = .ok (.aload_n 0, 1) := by decide +kernel
theorem dL_law_881 : decode cL_law 881 = .ok (.iload_n 3, 1) := by decide +kernel
theorem dL_law_882 : decode cL_law 882 = .ok (.iconst 2, 1) := by decide +kernel
theorem dL_law_883 : decode cL_law 883 = .ok (.iadd, 1) := by decide +kernel
theorem dL_law_884 : decode cL_law 884 = .ok (.iaload, 1) := by decide +kernel
theorem dL_law_885 : decode cL_law 885 = .ok (.aload_n 0, 1) := by decide +kernel
theorem dL_law_886 : decode cL_law 886 = .ok (.iload_n 3, 1) := by decide +kernel
theorem dL_law_887 : decode cL_law 887 = .ok (.iconst 3, 1) := by decide +kernel
theorem dL_law_888 : decode cL_law 888 = .ok (.iadd, 1) := by decide +kernel
theorem dL_law_889 : decode cL_law 889 = .ok (.iaload, 1) := by decide +kernel
theorem dL_law_890 : decode cL_law 890 = .ok (.invokevirtual 129, 3) := by decide +kernel
theorem dL_law_893 : decode cL_law 893 = .ok (.aload_n 2, 1) := by decide +kernel
theorem dL_law_894 : decode cL_law 894 = .ok (.aload_n 0, 1) := by decide +kernel
theorem dL_law_895 : decode cL_law 895 = .ok (.iload_n 3, 1) := by decide +kernel
theorem dL_law_896 : decode cL_law 896 = .ok (.iconst 1, 1) := by decide +kernel
theorem dL_law_897 : decode cL_law 897 = .ok (.iadd, 1) := by decide +kernel
theorem dL_law_898 : decode cL_law 898 = .ok (.iaload, 1) := by decide +kernel
theorem dL_law_899 : decode cL_law 899 = .ok (.aload_n 0, 1) := by decide +kernel
theorem dL_law_900 : decode cL_law 900 = .ok (.iload_n 3, 1) := by decide +kernel
theorem dL_law_901 : decode cL_law 901 = .ok (.iconst 2, 1) := by decide +kernel
theorem dL_law_902 : decode cL_law 902 = .ok (.iadd, 1) := by decide +kernel
theorem dL_law_903 : decode cL_law 903 = .ok (.iaload, 1) := by decide +kernel
theorem dL_law_904 : decode cL_law 904 = .ok (.aload_n 0, 1) := by decide +kernel
theorem dL_law_905 : decode cL_law 905 = .ok (.iload_n 3, 1) := by decide +kernel
theorem dL_law_906 : decode cL_law 906 = .ok (.iconst 3, 1) := by decide +kernel
theorem dL_law_907 : decode cL_law 907 = .ok (.iadd, 1) := by decide +kernel
theorem dL_law_908 : decode cL_law 908 = .ok (.iaload, 1) := by decide +kernel
theorem dL_law_909 : decode cL_law 909 = .ok (.invokevirtual 132, 3) := by decide +kernel
theorem dL_law_912 : decode cL_law 912 = .ok (.if_icmp .eq 97, 3) := by decide +kernel
theorem dL_law_915 : decode cL_law 915 = .ok (.iconst 0, 1) := by decide +kernel
theorem dL_law_916 : decode cL_law 916 = .ok (.ireturn, 1) := by decide +kernel
theorem dL_law_917 : decode cL_law 917 = .ok (.aload_n 1, 1) := by decide +kernel
theorem dL_law_918 : decode cL_law 918 = .ok (.aload_n 0, 1) := by decide +kernel
theorem dL_law_919 : decode cL_law 919 = .ok (.iload_n 3, 1) := by decide +kernel
theorem dL_law_920 : decode cL_law 920 = .ok (.iconst 1, 1) := by decide +kernel
theorem dL_law_921 : decode cL_law 921 = .ok (.iadd, 1) := by decide +kernel
theorem dL_law_922 : decode cL_law 922 = .ok (.iaload, 1) := by decide +kernel
theorem dL_law_923 : decode cL_law 923 = .ok (.aload_n 0, 1) := by decide +kernel
theorem dL_law_924 : decode cL_law 924 = .ok (.iload_n 3, 1) := by decide +kernel
theorem dL_law_925 : decode cL_law 925 = .ok (.iconst 2, 1) := by decide +kernel
theorem dL_law_926 : decode cL_law 926 = .ok (.iadd, 1) := by decide +kernel
theorem dL_law_927 : decode cL_law 927 = .ok (.iaload, 1) := by decide +kernel
theorem dL_law_928 : decode cL_law 928 = .ok (.aload_n 0, 1) := by decide +kernel
theorem dL_law_929 : decode cL_law 929 = .ok (.iload_n 3, 1) := by decide +kernel
theorem dL_law_930 : decode cL_law 930 = .ok (.iconst 3, 1) := by decide +kernel
theorem dL_law_931 : decode cL_law 931 = .ok (.iadd, 1) := by decide +kernel
theorem dL_law_932 : decode cL_law 932 = .ok (.iaload, 1) := by decide +kernel
theorem dL_law_933 : decode cL_law 933 = .ok (.invokevirtual 133, 3) := by decide +kernel
theorem dL_law_936 : decode cL_law 936 = .ok (.aload_n 2, 1) := by decide +kernel
theorem dL_law_937 : decode cL_law 937 = .ok (.aload_n 0, 1) := by decide +kernel
theorem dL_law_938 : decode cL_law 938 = .ok (.iload_n 3, 1) := by decide +kernel
theorem dL_law_939 : decode cL_law 939 = .ok (.iconst 1, 1) := by decide +kernel
theorem dL_law_940 : decode cL_law 940 = .ok (.iadd, 1) := by decide +kernel
theorem dL_law_941 : decode cL_law 941 = .ok (.iaload, 1) := by decide +kernel
theorem dL_law_942 : decode cL_law 942 = .ok (.aload_n 0, 1) := by decide +kernel
theorem dL_law_943 : decode cL_law 943 = .ok (.iload_n 3, 1) := by decide +kernel
theorem dL_law_944 : decode cL_law 944 = .ok (.iconst 2, 1) := by decide +kernel
theorem dL_law_945 : decode cL_law 945 = .ok (.iadd, 1) := by decide +kernel
theorem dL_law_946 : decode cL_law 946 = .ok (.iaload, 1) := by decide +kernel
theorem dL_law_947 : decode cL_law 947 = .ok (.aload_n 0, 1) := by decide +kernel
theorem dL_law_948 : decode cL_law 948 = .ok (.iload_n 3, 1) := by decide +kernel
theorem dL_law_949 : decode cL_law 949 = .ok (.iconst 3, 1) := by decide +kernel
theorem dL_law_950 : decode cL_law 950 = .ok (.iadd, 1) := by decide +kernel
theorem dL_law_951 : decode cL_law 951 = .ok (.iaload, 1) := by decide +kernel
theorem dL_law_952 : decode cL_law 952 = .ok (.invokevirtual 136, 3) := by decide +kernel
theorem dL_law_955 : decode cL_law 955 = .ok (.if_icmp .eq 54, 3) := by decide +kernel
theorem dL_law_958 : decode cL_law 958 = .ok (.iconst 0, 1) := by decide +kernel
theorem dL_law_959 : decode cL_law 959 = .ok (.ireturn, 1) := by decide +kernel
theorem dL_law_960 : decode cL_law 960 = .ok (.aload_n 1, 1) := by decide +kernel
theorem dL_law_961 : decode cL_law 961 = .ok (.invokevirtual 137, 3) := by decide +kernel
theorem dL_law_964 : decode cL_law 964 = .ok (.aload_n 2, 1) := by decide +kernel
theorem dL_law_965 : decode cL_law 965 = .ok (.invokevirtual 140, 3) := by decide +kernel
theorem dL_law_968 : decode cL_law 968 = .ok (.if_icmp .eq 41, 3) := by decide +kernel
theorem dL_law_971 : decode cL_law 971 = .ok (.iconst 0, 1) := by decide +kernel
theorem dL_law_972 : decode cL_law 972 = .ok (.ireturn, 1) := by decide +kernel
theorem dL_law_973 : decode cL_law 973 = .ok (.aload_n 1, 1) := by decide +kernel
theorem dL_law_974 : decode cL_law 974 = .ok (.invokevirtual 141, 3) := by decide +kernel
theorem dL_law_977 : decode cL_law 977 = .ok (.aload_n 2, 1) := by decide +kernel
theorem dL_law_978 : decode cL_law 978 = .ok (.invokevirtual 144, 3) := by decide +kernel
theorem dL_law_981 : decode cL_law 981 = .ok (.if_icmp .eq 28, 3) := by decide +kernel
theorem dL_law_984 : decode cL_law 984 = .ok (.iconst 0, 1) := by decide +kernel
theorem dL_law_985 : decode cL_law 985 = .ok (.ireturn, 1) := by decide +kernel
theorem dL_law_986 : decode cL_law 986 = .ok (.aload_n 1, 1) := by decide +kernel
theorem dL_law_987 : decode cL_law 987 = .ok (.aload_n 0, 1) := by decide +kernel
theorem dL_law_988 : decode cL_law 988 = .ok (.iload_n 3, 1) := by decide +kernel
theorem dL_law_989 : decode cL_law 989 = .ok (.iconst 1, 1) := by decide +kernel
theorem dL_law_990 : decode cL_law 990 = .ok (.iadd, 1) := by decide +kernel
theorem dL_law_991 : decode cL_law 991 = .ok (.iaload, 1) := by decide +kernel
theorem dL_law_992 : decode cL_law 992 = .ok (.invokevirtual 145, 3) := by decide +kernel
theorem dL_law_995 : decode cL_law 995 = .ok (.aload_n 2, 1) := by decide +kernel
theorem dL_law_996 : decode cL_law 996 = .ok (.aload_n 0, 1) := by decide +kernel
theorem dL_law_997 : decode cL_law 997 = .ok (.iload_n 3, 1) := by decide +kernel
theorem dL_law_998 : decode cL_law 998 = .ok (.iconst 1, 1) := by decide +kernel
theorem dL_law_999 : decode cL_law 999 = .ok (.iadd, 1) := by decide +kernel
theorem dL_law_1000 : decode cL_law 1000 = .ok (.iaload, 1) := by decide +kernel
theorem dL_law_1001 : decode cL_law 1001 = .ok (.invokevirtual 148, 3) := by decide +kernel
theorem dL_law_1004 : decode cL_law 1004 = .ok (.if_icmp .eq 5, 3) := by decide +kernel
theorem dL_law_1007 : decode cL_law 1007 = .ok (.iconst 0, 1) := by decide +kernel
theorem dL_law_1008 : decode cL_law 1008 = .ok (.ireturn, 1) := by decide +kernel
theorem dL_law_1009 : decode cL_law 1009 = .ok (.iinc 3 4, 3) := by decide +kernel
theorem dL_law_1012 : decode cL_law 1012 = .ok (.goto (-994), 3) := by decide +kernel
theorem dL_law_1015 : decode cL_law 1015 = .ok (.iconst 1, 1) := by decide +kernel
theorem dL_law_1016 : decode cL_law 1016 = .ok (.ireturn, 1) := by decide +kernel
abbrev vwCl : List vw_C := [(RX0, TX0, 2), (RX1, TX1, 4), (RX2, TX2, 2), (RX3, TX3, 3), (RX4, TX4, 3), (RX5, TX5, 10), (RX6, TX6, 7), (RX7, TX7, 33)]
