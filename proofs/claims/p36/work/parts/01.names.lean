/-! ===== BEGIN words of one list among another's, by their places ===== -/
theorem goodIn_r {big : List Cond} (ws : List Cond) (ps : List Nat) (hp : ws = ps.filterMap (fun i => big[i]?)) (h : ws.all goodWord = true) : GoodIn big ws := by
  intro w hw
  have h1 := List.all_eq_true.mp h w hw
  rw [hp] at hw
  obtain ⟨i, -, hi⟩ := List.mem_filterMap.mp hw
  have hm : w ∈ big := by first | exact List.mem_of_getElem? hi | exact List.getElem?_mem hi
  exact ⟨hm, good_of_word h1⟩
theorem goodIn_app {big a b : List Cond} (ha : GoodIn big a) (hb : GoodIn big b) : GoodIn big (a ++ b) := fun w h => (List.mem_append.mp h).elim (ha w) (hb w)
theorem goodIn_ca {big a b : List Cond} {c : Cond} (ha : GoodIn big (c :: a)) (hb : GoodIn big b) : GoodIn big (c :: (a ++ b)) := fun w h => (List.mem_cons.mp h).elim (fun e => ha w (List.mem_cons.mpr (Or.inl e))) (fun h => (List.mem_append.mp h).elim (fun h => ha w (List.mem_cons.mpr (Or.inr h))) (hb w))
theorem goodIn_sub {big ws : List Cond} (hm : ∀ w ∈ ws, w ∈ big) (h : ws.all goodWord = true) : GoodIn big ws := fun w hw => ⟨hm w hw, good_of_word (List.all_eq_true.mp h w hw)⟩
/-! ===== END ===== -/

/-! ===== BEGIN printed: names, fields, word lists, decode rows ===== -/
def RX0 : String := "SignpostYard$Grid"
def TX0 : u_T := fun k => match k with
  | 0 => ("SignpostYard$Grid", "columns", "I", true)
  | _ => ("SignpostYard$Grid", "cells", "[I", true)
def tyX0 : Nat → FieldType := fun k => match k with
  | 0 => .int
  | _ => .array .int
abbrev wsX00 : List Cond := u_ws RX0 TX0 2
theorem nmX0 : ∀ a, a < 2 → ∀ b, b < 2 → a ≠ b → (TX0 a).2.1 ≠ (TX0 b).2.1 := by decide +kernel
theorem tyX0_ok : ∀ k, k < 2 → parseFieldDescriptor (TX0 k).2.2.1 = some (tyX0 k) := by decide +kernel
abbrev cX0_init : ByteArray := prog_2_method_1_code
def yX0_init : MethodName := ⟨RX0, "<init>", "(II)V"⟩
abbrev cX0_at : ByteArray := prog_2_method_2_code
def yX0_at : MethodName := ⟨RX0, "at", "(II)I"⟩
abbrev cX0_put : ByteArray := prog_2_method_3_code
def yX0_put : MethodName := ⟨RX0, "put", "(III)V"⟩
abbrev cX0_fill : ByteArray := prog_2_method_4_code
def yX0_fill : MethodName := ⟨RX0, "fill", "(I)V"⟩
abbrev cX0_become : ByteArray := prog_2_method_5_code
def yX0_become : MethodName := ⟨RX0, "become", "(LSignpostYard$Grid;)V"⟩
def RX1 : String := "SignpostYard$Letters"
def TX1 : u_T := fun k => match k with
  | 0 => ("SignpostYard$Letters", "letters", "LSignpostYard$Grid;", true)
  | 1 => ("SignpostYard$Letters", "numbers", "LSignpostYard$Grid;", true)
  | 2 => ("SignpostYard$Letters", "length", "I", false)
  | _ => ("SignpostYard$Letters", "place", "I", false)
def tyX1 : Nat → FieldType := fun k => match k with
  | 0 => .object "SignpostYard$Grid"
  | 1 => .object "SignpostYard$Grid"
  | 2 => .int
  | _ => .int
abbrev wsX10 : List Cond := u_ws RX1 TX1 4
theorem nmX1 : ∀ a, a < 4 → ∀ b, b < 4 → a ≠ b → (TX1 a).2.1 ≠ (TX1 b).2.1 := by decide +kernel
theorem tyX1_ok : ∀ k, k < 4 → parseFieldDescriptor (TX1 k).2.2.1 = some (tyX1 k) := by decide +kernel
abbrev cX1_init : ByteArray := prog_3_method_1_code
def yX1_init : MethodName := ⟨RX1, "<init>", "()V"⟩
abbrev cX1_length : ByteArray := prog_3_method_2_code
def yX1_length : MethodName := ⟨RX1, "length", "()I"⟩
abbrev cX1_append : ByteArray := prog_3_method_3_code
def yX1_append : MethodName := ⟨RX1, "append", "(I)I"⟩
abbrev cX1_empty : ByteArray := prog_3_method_4_code
def yX1_empty : MethodName := ⟨RX1, "empty", "()I"⟩
abbrev cX1_readInto : ByteArray := prog_3_method_5_code
def yX1_readInto : MethodName := ⟨RX1, "readInto", "(LSignpostYard$Yard;)I"⟩
abbrev cX1_readItem : ByteArray := prog_3_method_6_code
def yX1_readItem : MethodName := ⟨RX1, "readItem", "(LSignpostYard$Yard;Z)Z"⟩
abbrev cX1_numbersBehind : ByteArray := prog_3_method_7_code
def yX1_numbersBehind : MethodName := ⟨RX1, "numbersBehind", "(I)I"⟩
abbrev cX1_readNumbers : ByteArray := prog_3_method_8_code
def yX1_readNumbers : MethodName := ⟨RX1, "readNumbers", "(I)Z"⟩
abbrev cX1_readFigure : ByteArray := prog_3_method_9_code
def yX1_readFigure : MethodName := ⟨RX1, "readFigure", "()I"⟩
abbrev cX1_letterHere : ByteArray := prog_3_method_10_code
def yX1_letterHere : MethodName := ⟨RX1, "letterHere", "()I"⟩
def RX2 : String := "SignpostYard$Notes"
def TX2 : u_T := fun k => match k with
  | 0 => ("SignpostYard$Notes", "notes", "LSignpostYard$Grid;", true)
  | _ => ("SignpostYard$Notes", "held", "I", false)
def tyX2 : Nat → FieldType := fun k => match k with
  | 0 => .object "SignpostYard$Grid"
  | _ => .int
abbrev wsX20 : List Cond := u_ws RX2 TX2 2
theorem nmX2 : ∀ a, a < 2 → ∀ b, b < 2 → a ≠ b → (TX2 a).2.1 ≠ (TX2 b).2.1 := by decide +kernel
theorem tyX2_ok : ∀ k, k < 2 → parseFieldDescriptor (TX2 k).2.2.1 = some (tyX2 k) := by decide +kernel
abbrev cX2_init : ByteArray := prog_4_method_1_code
def yX2_init : MethodName := ⟨RX2, "<init>", "()V"⟩
abbrev cX2_held : ByteArray := prog_4_method_2_code
def yX2_held : MethodName := ⟨RX2, "held", "()I"⟩
abbrev cX2_number : ByteArray := prog_4_method_3_code
def yX2_number : MethodName := ⟨RX2, "number", "(II)I"⟩
abbrev cX2_add : ByteArray := prog_4_method_4_code
def yX2_add : MethodName := ⟨RX2, "add", "(III)I"⟩
abbrev cX2_empty : ByteArray := prog_4_method_5_code
def yX2_empty : MethodName := ⟨RX2, "empty", "()I"⟩
def RX3 : String := "SignpostYard$Roads"
def TX3 : u_T := fun k => match k with
  | 0 => ("SignpostYard$Roads", "towns", "I", false)
  | 1 => ("SignpostYard$Roads", "miles", "LSignpostYard$Grid;", true)
  | _ => ("SignpostYard$Roads", "paths", "LSignpostYard$Grid;", true)
def tyX3 : Nat → FieldType := fun k => match k with
  | 0 => .int
  | 1 => .object "SignpostYard$Grid"
  | _ => .object "SignpostYard$Grid"
abbrev wsX30 : List Cond := u_ws RX3 TX3 3
theorem nmX3 : ∀ a, a < 3 → ∀ b, b < 3 → a ≠ b → (TX3 a).2.1 ≠ (TX3 b).2.1 := by decide +kernel
theorem tyX3_ok : ∀ k, k < 3 → parseFieldDescriptor (TX3 k).2.2.1 = some (tyX3 k) := by decide +kernel
abbrev cX3_init : ByteArray := prog_5_method_1_code
def yX3_init : MethodName := ⟨RX3, "<init>", "()V"⟩
abbrev cX3_become : ByteArray := prog_5_method_2_code
def yX3_become : MethodName := ⟨RX3, "become", "(LSignpostYard$Roads;)V"⟩
abbrev cX3_clear : ByteArray := prog_5_method_3_code
def yX3_clear : MethodName := ⟨RX3, "clear", "(I)V"⟩
abbrev cX3_towns : ByteArray := prog_5_method_4_code
def yX3_towns : MethodName := ⟨RX3, "towns", "()I"⟩
abbrev cX3_change : ByteArray := prog_5_method_5_code
def yX3_change : MethodName := ⟨RX3, "change", "(III)V"⟩
abbrev cX3_set : ByteArray := prog_5_method_6_code
def yX3_set : MethodName := ⟨RX3, "set", "(III)V"⟩
abbrev cX3_survey : ByteArray := prog_5_method_7_code
def yX3_survey : MethodName := ⟨RX3, "survey", "()V"⟩
abbrev cX3_shorten : ByteArray := prog_5_method_8_code
def yX3_shorten : MethodName := ⟨RX3, "shorten", "(III)V"⟩
abbrev cX3_between : ByteArray := prog_5_method_9_code
def yX3_between : MethodName := ⟨RX3, "between", "(II)I"⟩
abbrev cX3_pathMiles : ByteArray := prog_5_method_10_code
def yX3_pathMiles : MethodName := ⟨RX3, "pathMiles", "(II)I"⟩
abbrev cX3_firstStep : ByteArray := prog_5_method_11_code
def yX3_firstStep : MethodName := ⟨RX3, "firstStep", "(II)I"⟩
abbrev cX3_townBehind : ByteArray := prog_5_method_12_code
def yX3_townBehind : MethodName := ⟨RX3, "townBehind", "(I)I"⟩
abbrev cX3_turned : ByteArray := prog_5_method_13_code
def yX3_turned : MethodName := ⟨RX3, "turned", "(II)I"⟩
abbrev cX3_nearest : ByteArray := prog_5_method_14_code
def yX3_nearest : MethodName := ⟨RX3, "nearest", "(I)I"⟩
abbrev cX3_howMany : ByteArray := prog_5_method_15_code
def yX3_howMany : MethodName := ⟨RX3, "howMany", "()I"⟩
abbrev cX3_milesOfAll : ByteArray := prog_5_method_16_code
def yX3_milesOfAll : MethodName := ⟨RX3, "milesOfAll", "()I"⟩
def RX4 : String := "SignpostYard$Shelf"
def TX4 : u_T := fun k => match k with
  | 0 => ("SignpostYard$Shelf", "yards", "[LSignpostYard$Yard;", true)
  | 1 => ("SignpostYard$Shelf", "held", "I", false)
  | _ => ("SignpostYard$Shelf", "free", "I", false)
def tyX4 : Nat → FieldType := fun k => match k with
  | 0 => .array (.object "SignpostYard$Yard")
  | 1 => .int
  | _ => .int
abbrev wsX40 : List Cond := u_ws RX4 TX4 3
theorem nmX4 : ∀ a, a < 3 → ∀ b, b < 3 → a ≠ b → (TX4 a).2.1 ≠ (TX4 b).2.1 := by decide +kernel
theorem tyX4_ok : ∀ k, k < 3 → parseFieldDescriptor (TX4 k).2.2.1 = some (tyX4 k) := by decide +kernel
abbrev cX4_init : ByteArray := prog_6_method_1_code
def yX4_init : MethodName := ⟨RX4, "<init>", "(I)V"⟩
abbrev cX4_held : ByteArray := prog_6_method_2_code
def yX4_held : MethodName := ⟨RX4, "held", "()I"⟩
abbrev cX4_empty : ByteArray := prog_6_method_3_code
def yX4_empty : MethodName := ⟨RX4, "empty", "()V"⟩
abbrev cX4_setAside : ByteArray := prog_6_method_4_code
def yX4_setAside : MethodName := ⟨RX4, "setAside", "(LSignpostYard$Yard;)V"⟩
abbrev cX4_giveBack : ByteArray := prog_6_method_5_code
def yX4_giveBack : MethodName := ⟨RX4, "giveBack", "(LSignpostYard$Yard;)Z"⟩
def RX5 : String := "SignpostYard$Yard"
def TX5 : u_T := fun k => match k with
  | 0 => ("SignpostYard$Yard", "roads", "LSignpostYard$Roads;", true)
  | 1 => ("SignpostYard$Yard", "post", "LSignpostYard$Grid;", true)
  | 2 => ("SignpostYard$Yard", "arms", "LSignpostYard$Grid;", true)
  | 3 => ("SignpostYard$Yard", "armMiles", "LSignpostYard$Grid;", true)
  | 4 => ("SignpostYard$Yard", "walker", "LSignpostYard$Grid;", true)
  | 5 => ("SignpostYard$Yard", "posts", "I", false)
  | 6 => ("SignpostYard$Yard", "walkers", "I", false)
  | 7 => ("SignpostYard$Yard", "hour", "I", false)
  | 8 => ("SignpostYard$Yard", "years", "I", false)
  | _ => ("SignpostYard$Yard", "twisted", "I", false)
def tyX5 : Nat → FieldType := fun k => match k with
  | 0 => .object "SignpostYard$Roads"
  | 1 => .object "SignpostYard$Grid"
  | 2 => .object "SignpostYard$Grid"
  | 3 => .object "SignpostYard$Grid"
  | 4 => .object "SignpostYard$Grid"
  | 5 => .int
  | 6 => .int
  | 7 => .int
  | 8 => .int
  | _ => .int
abbrev wsX50 : List Cond := u_ws RX5 TX5 10
theorem nmX5 : ∀ a, a < 10 → ∀ b, b < 10 → a ≠ b → (TX5 a).2.1 ≠ (TX5 b).2.1 := by decide +kernel
theorem tyX5_ok : ∀ k, k < 10 → parseFieldDescriptor (TX5 k).2.2.1 = some (tyX5 k) := by decide +kernel
abbrev cX5_init : ByteArray := prog_7_method_1_code
def yX5_init : MethodName := ⟨RX5, "<init>", "()V"⟩
abbrev cX5_become : ByteArray := prog_7_method_2_code
def yX5_become : MethodName := ⟨RX5, "become", "(LSignpostYard$Yard;)V"⟩
abbrev cX5_clear : ByteArray := prog_7_method_3_code
def yX5_clear : MethodName := ⟨RX5, "clear", "()V"⟩
abbrev cX5_tellTowns : ByteArray := prog_7_method_4_code
def yX5_tellTowns : MethodName := ⟨RX5, "tellTowns", "(I)Z"⟩
abbrev cX5_tellRoad : ByteArray := prog_7_method_5_code
def yX5_tellRoad : MethodName := ⟨RX5, "tellRoad", "(III)Z"⟩
abbrev cX5_tellPost : ByteArray := prog_7_method_6_code
def yX5_tellPost : MethodName := ⟨RX5, "tellPost", "(III)Z"⟩
abbrev cX5_tellWalker : ByteArray := prog_7_method_7_code
def yX5_tellWalker : MethodName := ⟨RX5, "tellWalker", "(II)Z"⟩
abbrev cX5_paintAll : ByteArray := prog_7_method_8_code
def yX5_paintAll : MethodName := ⟨RX5, "paintAll", "()V"⟩
abbrev cX5_roads : ByteArray := prog_7_method_9_code
def yX5_roads : MethodName := ⟨RX5, "roads", "()LSignpostYard$Roads;"⟩
abbrev cX5_towns : ByteArray := prog_7_method_10_code
def yX5_towns : MethodName := ⟨RX5, "towns", "()I"⟩
abbrev cX5_posts : ByteArray := prog_7_method_11_code
def yX5_posts : MethodName := ⟨RX5, "posts", "()I"⟩
abbrev cX5_walkers : ByteArray := prog_7_method_12_code
def yX5_walkers : MethodName := ⟨RX5, "walkers", "()I"⟩
abbrev cX5_hour : ByteArray := prog_7_method_13_code
def yX5_hour : MethodName := ⟨RX5, "hour", "()I"⟩
abbrev cX5_years : ByteArray := prog_7_method_14_code
def yX5_years : MethodName := ⟨RX5, "years", "()I"⟩
abbrev cX5_isTown : ByteArray := prog_7_method_15_code
def yX5_isTown : MethodName := ⟨RX5, "isTown", "(I)Z"⟩
abbrev cX5_areTwoTowns : ByteArray := prog_7_method_16_code
def yX5_areTwoTowns : MethodName := ⟨RX5, "areTwoTowns", "(II)Z"⟩
abbrev cX5_isPost : ByteArray := prog_7_method_17_code
def yX5_isPost : MethodName := ⟨RX5, "isPost", "(I)Z"⟩
abbrev cX5_isWalker : ByteArray := prog_7_method_18_code
def yX5_isWalker : MethodName := ⟨RX5, "isWalker", "(I)Z"⟩
abbrev cX5_kindOf : ByteArray := prog_7_method_19_code
def yX5_kindOf : MethodName := ⟨RX5, "kindOf", "(I)I"⟩
abbrev cX5_townOf : ByteArray := prog_7_method_20_code
def yX5_townOf : MethodName := ⟨RX5, "townOf", "(I)I"⟩
abbrev cX5_ageOf : ByteArray := prog_7_method_21_code
def yX5_ageOf : MethodName := ⟨RX5, "ageOf", "(I)I"⟩
abbrev cX5_armOf : ByteArray := prog_7_method_22_code
def yX5_armOf : MethodName := ⟨RX5, "armOf", "(II)I"⟩
abbrev cX5_milesOf : ByteArray := prog_7_method_23_code
def yX5_milesOf : MethodName := ⟨RX5, "milesOf", "(II)I"⟩
abbrev cX5_placeOf : ByteArray := prog_7_method_24_code
def yX5_placeOf : MethodName := ⟨RX5, "placeOf", "(I)I"⟩
abbrev cX5_goalOf : ByteArray := prog_7_method_25_code
def yX5_goalOf : MethodName := ⟨RX5, "goalOf", "(I)I"⟩
abbrev cX5_hasCome : ByteArray := prog_7_method_26_code
def yX5_hasCome : MethodName := ⟨RX5, "hasCome", "(I)Z"⟩
abbrev cX5_isRetired : ByteArray := prog_7_method_27_code
def yX5_isRetired : MethodName := ⟨RX5, "isRetired", "(I)Z"⟩
abbrev cX5_noneRetired : ByteArray := prog_7_method_28_code
def yX5_noneRetired : MethodName := ⟨RX5, "noneRetired", "(I)Z"⟩
abbrev cX5_comeCount : ByteArray := prog_7_method_29_code
def yX5_comeCount : MethodName := ⟨RX5, "comeCount", "()I"⟩
abbrev cX5_retiredCount : ByteArray := prog_7_method_30_code
def yX5_retiredCount : MethodName := ⟨RX5, "retiredCount", "()I"⟩
abbrev cX5_lowestPostIn : ByteArray := prog_7_method_31_code
def yX5_lowestPostIn : MethodName := ⟨RX5, "lowestPostIn", "(I)I"⟩
abbrev cX5_pointing : ByteArray := prog_7_method_32_code
def yX5_pointing : MethodName := ⟨RX5, "pointing", "(II)I"⟩
abbrev cX5_turnsOf : ByteArray := prog_7_method_33_code
def yX5_turnsOf : MethodName := ⟨RX5, "turnsOf", "(I)I"⟩
abbrev cX5_passHours : ByteArray := prog_7_method_34_code
def yX5_passHours : MethodName := ⟨RX5, "passHours", "(I)V"⟩
abbrev cX5_stepFrom : ByteArray := prog_7_method_35_code
def yX5_stepFrom : MethodName := ⟨RX5, "stepFrom", "(II)I"⟩
abbrev cX5_passYear : ByteArray := prog_7_method_36_code
def yX5_passYear : MethodName := ⟨RX5, "passYear", "()I"⟩
abbrev cX5_paintPost : ByteArray := prog_7_method_37_code
def yX5_paintPost : MethodName := ⟨RX5, "paintPost", "(I)I"⟩
abbrev cX5_movePost : ByteArray := prog_7_method_38_code
def yX5_movePost : MethodName := ⟨RX5, "movePost", "(II)V"⟩
abbrev cX5_retirePost : ByteArray := prog_7_method_39_code
def yX5_retirePost : MethodName := ⟨RX5, "retirePost", "(I)V"⟩
abbrev cX5_turnInto : ByteArray := prog_7_method_40_code
def yX5_turnInto : MethodName := ⟨RX5, "turnInto", "(II)V"⟩
abbrev cX5_twist : ByteArray := prog_7_method_41_code
def yX5_twist : MethodName := ⟨RX5, "twist", "(I)V"⟩
abbrev cX5_dropPosts : ByteArray := prog_7_method_42_code
def yX5_dropPosts : MethodName := ⟨RX5, "dropPosts", "()V"⟩
abbrev cX5_standPlain : ByteArray := prog_7_method_43_code
def yX5_standPlain : MethodName := ⟨RX5, "standPlain", "(I)V"⟩
def RX6 : String := "SignpostYard"
def TX6 : u_T := fun k => match k with
  | 0 => ("SignpostYard", "text", "LSignpostYard$Letters;", true)
  | 1 => ("SignpostYard", "now", "LSignpostYard$Yard;", true)
  | 2 => ("SignpostYard", "trial", "LSignpostYard$Yard;", true)
  | 3 => ("SignpostYard", "undone", "LSignpostYard$Shelf;", true)
  | 4 => ("SignpostYard", "kept", "LSignpostYard$Shelf;", true)
  | 5 => ("SignpostYard", "tellings", "LSignpostYard$Notes;", true)
  | _ => ("SignpostYard", "sightings", "LSignpostYard$Notes;", true)
def tyX6 : Nat → FieldType := fun k => match k with
  | 0 => .object "SignpostYard$Letters"
  | 1 => .object "SignpostYard$Yard"
  | 2 => .object "SignpostYard$Yard"
  | 3 => .object "SignpostYard$Shelf"
  | 4 => .object "SignpostYard$Shelf"
  | 5 => .object "SignpostYard$Notes"
  | _ => .object "SignpostYard$Notes"
abbrev wsX60 : List Cond := u_ws RX6 TX6 7
theorem nmX6 : ∀ a, a < 7 → ∀ b, b < 7 → a ≠ b → (TX6 a).2.1 ≠ (TX6 b).2.1 := by decide +kernel
theorem tyX6_ok : ∀ k, k < 7 → parseFieldDescriptor (TX6 k).2.2.1 = some (tyX6 k) := by decide +kernel
abbrev cX6_init : ByteArray := prog_1_method_1_code
def yX6_init : MethodName := ⟨RX6, "<init>", "()V"⟩
abbrev cX6_write : ByteArray := prog_1_method_2_code
def yX6_write : MethodName := ⟨RX6, "write", "(I)I"⟩
abbrev cX6_road : ByteArray := prog_1_method_6_code
def yX6_road : MethodName := ⟨RX6, "road", "(II)I"⟩
abbrev cX6_post : ByteArray := prog_1_method_7_code
def yX6_post : MethodName := ⟨RX6, "post", "(II)I"⟩
abbrev cX6_arm : ByteArray := prog_1_method_8_code
def yX6_arm : MethodName := ⟨RX6, "arm", "(III)I"⟩
abbrev cX6_walker : ByteArray := prog_1_method_9_code
def yX6_walker : MethodName := ⟨RX6, "walker", "(II)I"⟩
abbrev cX6_pass : ByteArray := prog_1_method_10_code
def yX6_pass : MethodName := ⟨RX6, "pass", "(I)I"⟩
abbrev cX6_year : ByteArray := prog_1_method_11_code
def yX6_year : MethodName := ⟨RX6, "year", "()I"⟩
abbrev cX6_lays : ByteArray := prog_1_method_12_code
def yX6_lays : MethodName := ⟨RX6, "lays", "(III)I"⟩
abbrev cX6_paint : ByteArray := prog_1_method_13_code
def yX6_paint : MethodName := ⟨RX6, "paint", "(I)I"⟩
abbrev cX6_move : ByteArray := prog_1_method_14_code
def yX6_move : MethodName := ⟨RX6, "move", "(II)I"⟩
abbrev cX6_retire : ByteArray := prog_1_method_15_code
def yX6_retire : MethodName := ⟨RX6, "retire", "(I)I"⟩
abbrev cX6_undo : ByteArray := prog_1_method_16_code
def yX6_undo : MethodName := ⟨RX6, "undo", "()I"⟩
abbrev cX6_comes : ByteArray := prog_1_method_17_code
def yX6_comes : MethodName := ⟨RX6, "comes", "(I)I"⟩
abbrev cX6_trail : ByteArray := prog_1_method_18_code
def yX6_trail : MethodName := ⟨RX6, "trail", "(II)I"⟩
abbrev cX6_lost : ByteArray := prog_1_method_19_code
def yX6_lost : MethodName := ⟨RX6, "lost", "()I"⟩
abbrev cX6_helps : ByteArray := prog_1_method_20_code
def yX6_helps : MethodName := ⟨RX6, "helps", "(I)I"⟩
abbrev cX6_comersHelpedIn : ByteArray := prog_1_method_21_code
def yX6_comersHelpedIn : MethodName := ⟨RX6, "comersHelpedIn", "(I)I"⟩
abbrev cX6_paints : ByteArray := prog_1_method_22_code
def yX6_paints : MethodName := ⟨RX6, "paints", "(I)I"⟩
abbrev cX6_comersPainted : ByteArray := prog_1_method_23_code
def yX6_comersPainted : MethodName := ⟨RX6, "comersPainted", "(I)I"⟩
abbrev cX6_cover : ByteArray := prog_1_method_24_code
def yX6_cover : MethodName := ⟨RX6, "cover", "(I)I"⟩
abbrev cX6_isCover : ByteArray := prog_1_method_25_code
def yX6_isCover : MethodName := ⟨RX6, "isCover", "(I)Z"⟩
abbrev cX6_far : ByteArray := prog_1_method_26_code
def yX6_far : MethodName := ⟨RX6, "far", "(II)I"⟩
abbrev cX6_told : ByteArray := prog_1_method_27_code
def yX6_told : MethodName := ⟨RX6, "told", "(III)I"⟩
abbrev cX6_stood : ByteArray := prog_1_method_28_code
def yX6_stood : MethodName := ⟨RX6, "stood", "()I"⟩
abbrev cX6_tellsAll : ByteArray := prog_1_method_29_code
def yX6_tellsAll : MethodName := ⟨RX6, "tellsAll", "(I)Z"⟩
abbrev cX6_next : ByteArray := prog_1_method_30_code
def yX6_next : MethodName := ⟨RX6, "next", "()I"⟩
abbrev cX6_mostAlike : ByteArray := prog_1_method_31_code
def yX6_mostAlike : MethodName := ⟨RX6, "mostAlike", "(II)I"⟩
abbrev cX6_alikeWith : ByteArray := prog_1_method_32_code
def yX6_alikeWith : MethodName := ⟨RX6, "alikeWith", "(III)I"⟩
abbrev cX6_tellAlike : ByteArray := prog_1_method_33_code
def yX6_tellAlike : MethodName := ⟨RX6, "tellAlike", "(III)Z"⟩
abbrev cX6_seen : ByteArray := prog_1_method_34_code
def yX6_seen : MethodName := ⟨RX6, "seen", "(III)I"⟩
abbrev cX6_kinds : ByteArray := prog_1_method_35_code
def yX6_kinds : MethodName := ⟨RX6, "kinds", "(I)I"⟩
abbrev cX6_fitsSightings : ByteArray := prog_1_method_36_code
def yX6_fitsSightings : MethodName := ⟨RX6, "fitsSightings", "(I)Z"⟩
abbrev cX6_forget : ByteArray := prog_1_method_37_code
def yX6_forget : MethodName := ⟨RX6, "forget", "()I"⟩
abbrev cX6_likely : ByteArray := prog_1_method_38_code
def yX6_likely : MethodName := ⟨RX6, "likely", "(III)I"⟩
abbrev cX6_weightOf : ByteArray := prog_1_method_39_code
def yX6_weightOf : MethodName := ⟨RX6, "weightOf", "(II)I"⟩
abbrev cX6_comesTwisted : ByteArray := prog_1_method_40_code
def yX6_comesTwisted : MethodName := ⟨RX6, "comesTwisted", "(II)Z"⟩
abbrev cX6_commonPart : ByteArray := prog_1_method_41_code
def yX6_commonPart : MethodName := ⟨RX6, "commonPart", "(II)I"⟩
abbrev cX6_century : ByteArray := prog_1_method_42_code
def yX6_century : MethodName := ⟨RX6, "century", "(III)I"⟩
abbrev cX6_drawn : ByteArray := prog_1_method_43_code
def yX6_drawn : MethodName := ⟨RX6, "drawn", "(II)I"⟩
abbrev cX6_actByDraw : ByteArray := prog_1_method_44_code
def yX6_actByDraw : MethodName := ⟨RX6, "actByDraw", "(I)V"⟩
abbrev cX6_layOrClose : ByteArray := prog_1_method_45_code
def yX6_layOrClose : MethodName := ⟨RX6, "layOrClose", "(II)V"⟩
abbrev cX6_keep : ByteArray := prog_1_method_46_code
def yX6_keep : MethodName := ⟨RX6, "keep", "()I"⟩
abbrev cX6_back : ByteArray := prog_1_method_47_code
def yX6_back : MethodName := ⟨RX6, "back", "()I"⟩
abbrev cX6_count : ByteArray := prog_1_method_48_code
def yX6_count : MethodName := ⟨RX6, "count", "(I)I"⟩
abbrev cX6_hasBit : ByteArray := prog_1_method_49_code
def yX6_hasBit : MethodName := ⟨RX6, "hasBit", "(II)Z"⟩
def RX7 : String := "SignpostYardModel"
def TX7 : u_T := fun k => match k with
  | _ => ("", "", "", false)
def tyX7 : Nat → FieldType := fun k => match k with
  | _ => .int
abbrev wsX70 : List Cond := u_ws RX7 TX7 0
theorem nmX7 : ∀ a, a < 0 → ∀ b, b < 0 → a ≠ b → (TX7 a).2.1 ≠ (TX7 b).2.1 := by decide +kernel
theorem tyX7_ok : ∀ k, k < 0 → parseFieldDescriptor (TX7 k).2.2.1 = some (tyX7 k) := by decide +kernel
def RJ6 : String := "java/lang/Integer"
def TJ6 : u_T := fun k => match k with
  | _ => ("", "", "", false)
def tyJ6 : Nat → FieldType := fun k => match k with
  | _ => .int
abbrev wsJ60 : List Cond := u_ws RJ6 TJ6 0
theorem nmJ6 : ∀ a, a < 0 → ∀ b, b < 0 → a ≠ b → (TJ6 a).2.1 ≠ (TJ6 b).2.1 := by decide +kernel
theorem tyJ6_ok : ∀ k, k < 0 → parseFieldDescriptor (TJ6 k).2.2.1 = some (tyJ6 k) := by decide +kernel
abbrev cJ6_bitCount_0f7a4 : ByteArray := prog_10_method_49_code
def yJ6_bitCount_0f7a4 : MethodName := ⟨RJ6, "bitCount", "(I)I"⟩
def RJ9 : String := "java/lang/Math"
def TJ9 : u_T := fun k => match k with
  | _ => ("", "", "", false)
def tyJ9 : Nat → FieldType := fun k => match k with
  | _ => .int
abbrev wsJ90 : List Cond := u_ws RJ9 TJ9 0
theorem nmJ9 : ∀ a, a < 0 → ∀ b, b < 0 → a ≠ b → (TJ9 a).2.1 ≠ (TJ9 b).2.1 := by decide +kernel
theorem tyJ9_ok : ∀ k, k < 0 → parseFieldDescriptor (TJ9 k).2.2.1 = some (tyJ9 k) := by decide +kernel
abbrev cJ9_max_7cf53 : ByteArray := prog_11_method_65_code
def yJ9_max_7cf53 : MethodName := ⟨RJ9, "max", "(II)I"⟩
abbrev cJ9_min_7cf53 : ByteArray := prog_11_method_69_code
def yJ9_min_7cf53 : MethodName := ⟨RJ9, "min", "(II)I"⟩
def RJ0 : String := "java/lang/String"
def TJ0 : u_T := fun k => match k with
  | _ => ("", "", "", false)
def tyJ0 : Nat → FieldType := fun k => match k with
  | _ => .int
abbrev wsJ00 : List Cond := u_ws RJ0 TJ0 0
theorem nmJ0 : ∀ a, a < 0 → ∀ b, b < 0 → a ≠ b → (TJ0 a).2.1 ≠ (TJ0 b).2.1 := by decide +kernel
theorem tyJ0_ok : ∀ k, k < 0 → parseFieldDescriptor (TJ0 k).2.2.1 = some (tyJ0 k) := by decide +kernel
abbrev cJ0_length_8abf5 : ByteArray := prog_12_method_54_code
def yJ0_length_8abf5 : MethodName := ⟨RJ0, "length", "()I"⟩
abbrev cJ0_charAt_5068e : ByteArray := prog_12_method_56_code
def yJ0_charAt_5068e : MethodName := ⟨RJ0, "charAt", "(I)C"⟩
abbrev cJ0_coder_7d493 : ByteArray := prog_12_method_152_code
def yJ0_coder_7d493 : MethodName := ⟨RJ0, "coder", "()B"⟩
abbrev cJ0_isLatin1_aae02 : ByteArray := prog_12_method_154_code
def yJ0_isLatin1_aae02 : MethodName := ⟨RJ0, "isLatin1", "()Z"⟩
abbrev cJ0_checkIndex_df160 : ByteArray := prog_12_method_155_code
def yJ0_checkIndex_df160 : MethodName := ⟨RJ0, "checkIndex", "(II)V"⟩
def RJ1 : String := "java/lang/StringLatin1"
def TJ1 : u_T := fun k => match k with
  | _ => ("", "", "", false)
def tyJ1 : Nat → FieldType := fun k => match k with
  | _ => .int
abbrev wsJ10 : List Cond := u_ws RJ1 TJ1 0
theorem nmJ1 : ∀ a, a < 0 → ∀ b, b < 0 → a ≠ b → (TJ1 a).2.1 ≠ (TJ1 b).2.1 := by decide +kernel
theorem tyJ1_ok : ∀ k, k < 0 → parseFieldDescriptor (TJ1 k).2.2.1 = some (tyJ1 k) := by decide +kernel
abbrev cJ1_charAt_3b067 : ByteArray := prog_13_method_2_code
def yJ1_charAt_3b067 : MethodName := ⟨RJ1, "charAt", "([BI)C"⟩
def RJ2 : String := "java/lang/StringUTF16"
def TJ2 : u_T := fun k => match k with
  | _ => ("", "", "", false)
def tyJ2 : Nat → FieldType := fun k => match k with
  | _ => .int
abbrev wsJ20 : List Cond := u_ws RJ2 TJ2 0
theorem nmJ2 : ∀ a, a < 0 → ∀ b, b < 0 → a ≠ b → (TJ2 a).2.1 ≠ (TJ2 b).2.1 := by decide +kernel
theorem tyJ2_ok : ∀ k, k < 0 → parseFieldDescriptor (TJ2 k).2.2.1 = some (tyJ2 k) := by decide +kernel
abbrev cJ2_getChar_3b067 : ByteArray := prog_14_method_5_code
def yJ2_getChar_3b067 : MethodName := ⟨RJ2, "getChar", "([BI)C"⟩
abbrev cJ2_length_9d52b : ByteArray := prog_14_method_6_code
def yJ2_length_9d52b : MethodName := ⟨RJ2, "length", "([B)I"⟩
abbrev cJ2_charAt_3b067 : ByteArray := prog_14_method_83_code
def yJ2_charAt_3b067 : MethodName := ⟨RJ2, "charAt", "([BI)C"⟩
abbrev cJ2_checkIndex_2214a : ByteArray := prog_14_method_91_code
def yJ2_checkIndex_2214a : MethodName := ⟨RJ2, "checkIndex", "(I[B)V"⟩
def RJ10 : String := "java/lang/System"
def TJ10 : u_T := fun k => match k with
  | _ => ("", "", "", false)
def tyJ10 : Nat → FieldType := fun k => match k with
  | _ => .int
theorem nmJ10 : ∀ a, a < 0 → ∀ b, b < 0 → a ≠ b → (TJ10 a).2.1 ≠ (TJ10 b).2.1 := by decide +kernel
theorem tyJ10_ok : ∀ k, k < 0 → parseFieldDescriptor (TJ10 k).2.2.1 = some (tyJ10 k) := by decide +kernel
def RJ3 : String := "jdk/internal/util/Preconditions"
def TJ3 : u_T := fun k => match k with
  | _ => ("", "", "", false)
def tyJ3 : Nat → FieldType := fun k => match k with
  | _ => .int
abbrev wsJ30 : List Cond := u_ws RJ3 TJ3 0
theorem nmJ3 : ∀ a, a < 0 → ∀ b, b < 0 → a ≠ b → (TJ3 a).2.1 ≠ (TJ3 b).2.1 := by decide +kernel
theorem tyJ3_ok : ∀ k, k < 0 → parseFieldDescriptor (TJ3 k).2.2.1 = some (tyJ3 k) := by decide +kernel
abbrev cJ3_checkIndex_8e157 : ByteArray := prog_16_method_11_code
def yJ3_checkIndex_8e157 : MethodName := ⟨RJ3, "checkIndex", "(IILjava/util/function/BiFunction;)I"⟩
def RL : String := "SignpostYardLaw"
abbrev cL_cell : ByteArray := method_2_code
def yL_cell : MethodName := ⟨RL, "cell", "([II)I"⟩
abbrev cL_low : ByteArray := method_3_code
def yL_low : MethodName := ⟨RL, "low", "(II)I"⟩
abbrev cL_refused : ByteArray := method_4_code
def yL_refused : MethodName := ⟨RL, "refused", "(LSignpostYard;I)Z"⟩
abbrev cL_turn : ByteArray := method_5_code
def yL_turn : MethodName := ⟨RL, "turn", "(LSignpostYard;I)I"⟩
abbrev cL_same : ByteArray := method_6_code
def yL_same : MethodName := ⟨RL, "same", "(LSignpostYard;LSignpostYard;)Z"⟩
abbrev cL_law : ByteArray := code
def yL_law : MethodName := ⟨RL, "law", "([I)Z"⟩
theorem dX0_init_0 : decode cX0_init 0 = .ok (.aload_n 0, 1) := by decide +kernel
theorem dX0_init_1 : decode cX0_init 1 = .ok (.invokespecial 3, 3) := by decide +kernel
theorem dX0_init_4 : decode cX0_init 4 = .ok (.aload_n 0, 1) := by decide +kernel
theorem dX0_init_5 : decode cX0_init 5 = .ok (.iload_n 2, 1) := by decide +kernel
theorem dX0_init_6 : decode cX0_init 6 = .ok (.putfield 9, 3) := by decide +kernel
theorem dX0_init_9 : decode cX0_init 9 = .ok (.aload_n 0, 1) := by decide +kernel
theorem dX0_init_10 : decode cX0_init 10 = .ok (.iconst 1, 1) := by decide +kernel
theorem dX0_init_11 : decode cX0_init 11 = .ok (.iload_n 1, 1) := by decide +kernel
theorem dX0_init_12 : decode cX0_init 12 = .ok (.iload_n 2, 1) := by decide +kernel
theorem dX0_init_13 : decode cX0_init 13 = .ok (.imul, 1) := by decide +kernel
theorem dX0_init_14 : decode cX0_init 14 = .ok (.sipush 200, 3) := by decide +kernel
theorem dX0_init_17 : decode cX0_init 17 = .ok (.invokestatic 15, 3) := by decide +kernel
theorem dX0_init_20 : decode cX0_init 20 = .ok (.invokestatic 21, 3) := by decide +kernel
theorem dX0_init_23 : decode cX0_init 23 = .ok (.newarray .int, 2) := by decide +kernel
theorem dX0_init_25 : decode cX0_init 25 = .ok (.putfield 24, 3) := by decide +kernel
theorem dX0_init_28 : decode cX0_init 28 = .ok (.return_, 1) := by decide +kernel
theorem dX0_at_0 : decode cX0_at 0 = .ok (.iload_n 1, 1) := by decide +kernel
theorem dX0_at_1 : decode cX0_at 1 = .ok (.aload_n 0, 1) := by decide +kernel
theorem dX0_at_2 : decode cX0_at 2 = .ok (.getfield 9, 3) := by decide +kernel
theorem dX0_at_5 : decode cX0_at 5 = .ok (.imul, 1) := by decide +kernel
theorem dX0_at_6 : decode cX0_at 6 = .ok (.iload_n 2, 1) := by decide +kernel
theorem dX0_at_7 : decode cX0_at 7 = .ok (.iadd, 1) := by decide +kernel
theorem dX0_at_8 : decode cX0_at 8 = .ok (.istore_n 3, 1) := by decide +kernel
theorem dX0_at_9 : decode cX0_at 9 = .ok (.iload_n 2, 1) := by decide +kernel
theorem dX0_at_10 : decode cX0_at 10 = .ok (.ifCond .lt 28, 3) := by decide +kernel
theorem dX0_at_13 : decode cX0_at 13 = .ok (.iload_n 2, 1) := by decide +kernel
theorem dX0_at_14 : decode cX0_at 14 = .ok (.aload_n 0, 1) := by decide +kernel
theorem dX0_at_15 : decode cX0_at 15 = .ok (.getfield 9, 3) := by decide +kernel
theorem dX0_at_18 : decode cX0_at 18 = .ok (.if_icmp .ge 20, 3) := by decide +kernel
theorem dX0_at_21 : decode cX0_at 21 = .ok (.iload_n 3, 1) := by decide +kernel
theorem dX0_at_22 : decode cX0_at 22 = .ok (.ifCond .lt 16, 3) := by decide +kernel
theorem dX0_at_25 : decode cX0_at 25 = .ok (.iload_n 3, 1) := by decide +kernel
theorem dX0_at_26 : decode cX0_at 26 = .ok (.aload_n 0, 1) := by decide +kernel
theorem dX0_at_27 : decode cX0_at 27 = .ok (.getfield 24, 3) := by decide +kernel
theorem dX0_at_30 : decode cX0_at 30 = .ok (.arraylength, 1) := by decide +kernel
theorem dX0_at_31 : decode cX0_at 31 = .ok (.if_icmp .ge 7, 3) := by decide +kernel
theorem dX0_at_34 : decode cX0_at 34 = .ok (.iconst 1, 1) := by decide +kernel
theorem dX0_at_35 : decode cX0_at 35 = .ok (.goto 4, 3) := by decide +kernel
theorem dX0_at_38 : decode cX0_at 38 = .ok (.iconst 0, 1) := by decide +kernel
theorem dX0_at_39 : decode cX0_at 39 = .ok (.istore 4, 2) := by decide +kernel
theorem dX0_at_41 : decode cX0_at 41 = .ok (.iload 4, 2) := by decide +kernel
theorem dX0_at_43 : decode cX0_at 43 = .ok (.ifCond .eq 12, 3) := by decide +kernel
theorem dX0_at_46 : decode cX0_at 46 = .ok (.aload_n 0, 1) := by decide +kernel
theorem dX0_at_47 : decode cX0_at 47 = .ok (.getfield 24, 3) := by decide +kernel
theorem dX0_at_50 : decode cX0_at 50 = .ok (.iload_n 3, 1) := by decide +kernel
theorem dX0_at_51 : decode cX0_at 51 = .ok (.iaload, 1) := by decide +kernel
theorem dX0_at_52 : decode cX0_at 52 = .ok (.goto 5, 3) := by decide +kernel
theorem dX0_at_55 : decode cX0_at 55 = .ok (.bipush (-4), 2) := by decide +kernel
theorem dX0_at_57 : decode cX0_at 57 = .ok (.ireturn, 1) := by decide +kernel
theorem dX0_put_0 : decode cX0_put 0 = .ok (.iload_n 1, 1) := by decide +kernel
theorem dX0_put_1 : decode cX0_put 1 = .ok (.aload_n 0, 1) := by decide +kernel
theorem dX0_put_2 : decode cX0_put 2 = .ok (.getfield 9, 3) := by decide +kernel
theorem dX0_put_5 : decode cX0_put 5 = .ok (.imul, 1) := by decide +kernel
theorem dX0_put_6 : decode cX0_put 6 = .ok (.iload_n 2, 1) := by decide +kernel
theorem dX0_put_7 : decode cX0_put 7 = .ok (.iadd, 1) := by decide +kernel
theorem dX0_put_8 : decode cX0_put 8 = .ok (.istore 4, 2) := by decide +kernel
theorem dX0_put_10 : decode cX0_put 10 = .ok (.iload_n 2, 1) := by decide +kernel
theorem dX0_put_11 : decode cX0_put 11 = .ok (.ifCond .lt 34, 3) := by decide +kernel
theorem dX0_put_14 : decode cX0_put 14 = .ok (.iload_n 2, 1) := by decide +kernel
theorem dX0_put_15 : decode cX0_put 15 = .ok (.aload_n 0, 1) := by decide +kernel
theorem dX0_put_16 : decode cX0_put 16 = .ok (.getfield 9, 3) := by decide +kernel
theorem dX0_put_19 : decode cX0_put 19 = .ok (.if_icmp .ge 26, 3) := by decide +kernel
theorem dX0_put_22 : decode cX0_put 22 = .ok (.iload 4, 2) := by decide +kernel
theorem dX0_put_24 : decode cX0_put 24 = .ok (.ifCond .lt 21, 3) := by decide +kernel
theorem dX0_put_27 : decode cX0_put 27 = .ok (.iload 4, 2) := by decide +kernel
theorem dX0_put_29 : decode cX0_put 29 = .ok (.aload_n 0, 1) := by decide +kernel
theorem dX0_put_30 : decode cX0_put 30 = .ok (.getfield 24, 3) := by decide +kernel
theorem dX0_put_33 : decode cX0_put 33 = .ok (.arraylength, 1) := by decide +kernel
theorem dX0_put_34 : decode cX0_put 34 = .ok (.if_icmp .ge 11, 3) := by decide +kernel
theorem dX0_put_37 : decode cX0_put 37 = .ok (.aload_n 0, 1) := by decide +kernel
theorem dX0_put_38 : decode cX0_put 38 = .ok (.getfield 24, 3) := by decide +kernel
theorem dX0_put_41 : decode cX0_put 41 = .ok (.iload 4, 2) := by decide +kernel
theorem dX0_put_43 : decode cX0_put 43 = .ok (.iload_n 3, 1) := by decide +kernel
theorem dX0_put_44 : decode cX0_put 44 = .ok (.iastore, 1) := by decide +kernel
theorem dX0_put_45 : decode cX0_put 45 = .ok (.return_, 1) := by decide +kernel
theorem dX0_fill_0 : decode cX0_fill 0 = .ok (.iconst 0, 1) := by decide +kernel
theorem dX0_fill_1 : decode cX0_fill 1 = .ok (.istore_n 2, 1) := by decide +kernel
theorem dX0_fill_2 : decode cX0_fill 2 = .ok (.iload_n 2, 1) := by decide +kernel
theorem dX0_fill_3 : decode cX0_fill 3 = .ok (.aload_n 0, 1) := by decide +kernel
theorem dX0_fill_4 : decode cX0_fill 4 = .ok (.getfield 24, 3) := by decide +kernel
theorem dX0_fill_7 : decode cX0_fill 7 = .ok (.arraylength, 1) := by decide +kernel
theorem dX0_fill_8 : decode cX0_fill 8 = .ok (.if_icmp .ge 16, 3) := by decide +kernel
theorem dX0_fill_11 : decode cX0_fill 11 = .ok (.aload_n 0, 1) := by decide +kernel
theorem dX0_fill_12 : decode cX0_fill 12 = .ok (.getfield 24, 3) := by decide +kernel
theorem dX0_fill_15 : decode cX0_fill 15 = .ok (.iload_n 2, 1) := by decide +kernel
theorem dX0_fill_16 : decode cX0_fill 16 = .ok (.iload_n 1, 1) := by decide +kernel
theorem dX0_fill_17 : decode cX0_fill 17 = .ok (.iastore, 1) := by decide +kernel
theorem dX0_fill_18 : decode cX0_fill 18 = .ok (.iinc 2 1, 3) := by decide +kernel
theorem dX0_fill_21 : decode cX0_fill 21 = .ok (.goto (-19), 3) := by decide +kernel
theorem dX0_fill_24 : decode cX0_fill 24 = .ok (.return_, 1) := by decide +kernel
theorem dX0_become_0 : decode cX0_become 0 = .ok (.aload_n 1, 1) := by decide +kernel
theorem dX0_become_1 : decode cX0_become 1 = .ok (.getfield 24, 3) := by decide +kernel
theorem dX0_become_4 : decode cX0_become 4 = .ok (.iconst 0, 1) := by decide +kernel
theorem dX0_become_5 : decode cX0_become 5 = .ok (.aload_n 0, 1) := by decide +kernel
theorem dX0_become_6 : decode cX0_become 6 = .ok (.getfield 24, 3) := by decide +kernel
theorem dX0_become_9 : decode cX0_become 9 = .ok (.iconst 0, 1) := by decide +kernel
theorem dX0_become_10 : decode cX0_become 10 = .ok (.aload_n 0, 1) := by decide +kernel
theorem dX0_become_11 : decode cX0_become 11 = .ok (.getfield 24, 3) := by decide +kernel
theorem dX0_become_14 : decode cX0_become 14 = .ok (.arraylength, 1) := by decide +kernel
theorem dX0_become_15 : decode cX0_become 15 = .ok (.aload_n 1, 1) := by decide +kernel
theorem dX0_become_16 : decode cX0_become 16 = .ok (.getfield 24, 3) := by decide +kernel
theorem dX0_become_19 : decode cX0_become 19 = .ok (.arraylength, 1) := by decide +kernel
theorem dX0_become_20 : decode cX0_become 20 = .ok (.invokestatic 15, 3) := by decide +kernel
theorem dX0_become_23 : decode cX0_become 23 = .ok (.invokestatic 28, 3) := by decide +kernel
theorem dX0_become_26 : decode cX0_become 26 = .ok (.return_, 1) := by decide +kernel
theorem dX1_init_0 : decode cX1_init 0 = .ok (.aload_n 0, 1) := by decide +kernel
theorem dX1_init_1 : decode cX1_init 1 = .ok (.invokespecial 3, 3) := by decide +kernel
theorem dX1_init_4 : decode cX1_init 4 = .ok (.aload_n 0, 1) := by decide +kernel
theorem dX1_init_5 : decode cX1_init 5 = .ok (.new 9, 3) := by decide +kernel
theorem dX1_init_8 : decode cX1_init 8 = .ok (.dup, 1) := by decide +kernel
theorem dX1_init_9 : decode cX1_init 9 = .ok (.iconst 1, 1) := by decide +kernel
theorem dX1_init_10 : decode cX1_init 10 = .ok (.sipush 200, 3) := by decide +kernel
theorem dX1_init_13 : decode cX1_init 13 = .ok (.invokespecial 11, 3) := by decide +kernel
theorem dX1_init_16 : decode cX1_init 16 = .ok (.putfield 14, 3) := by decide +kernel
theorem dX1_init_19 : decode cX1_init 19 = .ok (.aload_n 0, 1) := by decide +kernel
theorem dX1_init_20 : decode cX1_init 20 = .ok (.new 9, 3) := by decide +kernel
theorem dX1_init_23 : decode cX1_init 23 = .ok (.dup, 1) := by decide +kernel
theorem dX1_init_24 : decode cX1_init 24 = .ok (.iconst 1, 1) := by decide +kernel
theorem dX1_init_25 : decode cX1_init 25 = .ok (.iconst 3, 1) := by decide +kernel
theorem dX1_init_26 : decode cX1_init 26 = .ok (.invokespecial 11, 3) := by decide +kernel
theorem dX1_init_29 : decode cX1_init 29 = .ok (.putfield 20, 3) := by decide +kernel
theorem dX1_init_32 : decode cX1_init 32 = .ok (.return_, 1) := by decide +kernel
theorem dX1_length_0 : decode cX1_length 0 = .ok (.aload_n 0, 1) := by decide +kernel
theorem dX1_length_1 : decode cX1_length 1 = .ok (.getfield 23, 3) := by decide +kernel
theorem dX1_length_4 : decode cX1_length 4 = .ok (.ireturn, 1) := by decide +kernel
theorem dX1_append_0 : decode cX1_append 0 = .ok (.aload_n 0, 1) := by decide +kernel
theorem dX1_append_1 : decode cX1_append 1 = .ok (.getfield 23, 3) := by decide +kernel
theorem dX1_append_4 : decode cX1_append 4 = .ok (.sipush 200, 3) := by decide +kernel
theorem dX1_append_7 : decode cX1_append 7 = .ok (.if_icmp .lt 6, 3) := by decide +kernel
theorem dX1_append_10 : decode cX1_append 10 = .ok (.bipush (-3), 2) := by decide +kernel
theorem dX1_append_12 : decode cX1_append 12 = .ok (.ireturn, 1) := by decide +kernel
theorem dX1_append_13 : decode cX1_append 13 = .ok (.aload_n 0, 1) := by decide +kernel
theorem dX1_append_14 : decode cX1_append 14 = .ok (.getfield 14, 3) := by decide +kernel
theorem dX1_append_17 : decode cX1_append 17 = .ok (.iconst 0, 1) := by decide +kernel
theorem dX1_append_18 : decode cX1_append 18 = .ok (.aload_n 0, 1) := by decide +kernel
theorem dX1_append_19 : decode cX1_append 19 = .ok (.getfield 23, 3) := by decide +kernel
theorem dX1_append_22 : decode cX1_append 22 = .ok (.iload_n 1, 1) := by decide +kernel
theorem dX1_append_23 : decode cX1_append 23 = .ok (.invokevirtual 27, 3) := by decide +kernel
theorem dX1_append_26 : decode cX1_append 26 = .ok (.aload_n 0, 1) := by decide +kernel
theorem dX1_append_27 : decode cX1_append 27 = .ok (.dup, 1) := by decide +kernel
theorem dX1_append_28 : decode cX1_append 28 = .ok (.getfield 23, 3) := by decide +kernel
theorem dX1_append_31 : decode cX1_append 31 = .ok (.iconst 1, 1) := by decide +kernel
theorem dX1_append_32 : decode cX1_append 32 = .ok (.iadd, 1) := by decide +kernel
theorem dX1_append_33 : decode cX1_append 33 = .ok (.putfield 23, 3) := by decide +kernel
theorem dX1_append_36 : decode cX1_append 36 = .ok (.aload_n 0, 1) := by decide +kernel
theorem dX1_append_37 : decode cX1_append 37 = .ok (.getfield 23, 3) := by decide +kernel
theorem dX1_append_40 : decode cX1_append 40 = .ok (.ireturn, 1) := by decide +kernel
theorem dX1_empty_0 : decode cX1_empty 0 = .ok (.aload_n 0, 1) := by decide +kernel
theorem dX1_empty_1 : decode cX1_empty 1 = .ok (.getfield 23, 3) := by decide +kernel
theorem dX1_empty_4 : decode cX1_empty 4 = .ok (.istore_n 1, 1) := by decide +kernel
theorem dX1_empty_5 : decode cX1_empty 5 = .ok (.aload_n 0, 1) := by decide +kernel
theorem dX1_empty_6 : decode cX1_empty 6 = .ok (.iconst 0, 1) := by decide +kernel
theorem dX1_empty_7 : decode cX1_empty 7 = .ok (.putfield 23, 3) := by decide +kernel
theorem dX1_empty_10 : decode cX1_empty 10 = .ok (.iload_n 1, 1) := by decide +kernel
theorem dX1_empty_11 : decode cX1_empty 11 = .ok (.ireturn, 1) := by decide +kernel
theorem dX1_readInto_0 : decode cX1_readInto 0 = .ok (.aload_n 1, 1) := by decide +kernel
theorem dX1_readInto_1 : decode cX1_readInto 1 = .ok (.invokevirtual 31, 3) := by decide +kernel
theorem dX1_readInto_4 : decode cX1_readInto 4 = .ok (.aload_n 0, 1) := by decide +kernel
theorem dX1_readInto_5 : decode cX1_readInto 5 = .ok (.iconst 0, 1) := by decide +kernel
theorem dX1_readInto_6 : decode cX1_readInto 6 = .ok (.putfield 36, 3) := by decide +kernel
theorem dX1_readInto_9 : decode cX1_readInto 9 = .ok (.iconst 0, 1) := by decide +kernel
theorem dX1_readInto_10 : decode cX1_readInto 10 = .ok (.istore_n 2, 1) := by decide +kernel
theorem dX1_readInto_11 : decode cX1_readInto 11 = .ok (.iload_n 2, 1) := by decide +kernel
theorem dX1_readInto_12 : decode cX1_readInto 12 = .ok (.sipush 200, 3) := by decide +kernel
theorem dX1_readInto_15 : decode cX1_readInto 15 = .ok (.if_icmp .ge 44, 3) := by decide +kernel
theorem dX1_readInto_18 : decode cX1_readInto 18 = .ok (.aload_n 0, 1) := by decide +kernel
theorem dX1_readInto_19 : decode cX1_readInto 19 = .ok (.getfield 36, 3) := by decide +kernel
theorem dX1_readInto_22 : decode cX1_readInto 22 = .ok (.aload_n 0, 1) := by decide +kernel
theorem dX1_readInto_23 : decode cX1_readInto 23 = .ok (.getfield 23, 3) := by decide +kernel
theorem dX1_readInto_26 : decode cX1_readInto 26 = .ok (.if_icmp .ge 33, 3) := by decide +kernel
theorem dX1_readInto_29 : decode cX1_readInto 29 = .ok (.aload_n 0, 1) := by decide +kernel
theorem dX1_readInto_30 : decode cX1_readInto 30 = .ok (.getfield 36, 3) := by decide +kernel
theorem dX1_readInto_33 : decode cX1_readInto 33 = .ok (.istore_n 3, 1) := by decide +kernel
theorem dX1_readInto_34 : decode cX1_readInto 34 = .ok (.aload_n 0, 1) := by decide +kernel
theorem dX1_readInto_35 : decode cX1_readInto 35 = .ok (.aload_n 1, 1) := by decide +kernel
theorem dX1_readInto_36 : decode cX1_readInto 36 = .ok (.iload_n 2, 1) := by decide +kernel
theorem dX1_readInto_37 : decode cX1_readInto 37 = .ok (.ifCond .ne 7, 3) := by decide +kernel
theorem dX1_readInto_40 : decode cX1_readInto 40 = .ok (.iconst 1, 1) := by decide +kernel
theorem dX1_readInto_41 : decode cX1_readInto 41 = .ok (.goto 4, 3) := by decide +kernel
theorem dX1_readInto_44 : decode cX1_readInto 44 = .ok (.iconst 0, 1) := by decide +kernel
theorem dX1_readInto_45 : decode cX1_readInto 45 = .ok (.invokevirtual 39, 3) := by decide +kernel
theorem dX1_readInto_48 : decode cX1_readInto 48 = .ok (.ifCond .ne 5, 3) := by decide +kernel
theorem dX1_readInto_51 : decode cX1_readInto 51 = .ok (.iload_n 3, 1) := by decide +kernel
theorem dX1_readInto_52 : decode cX1_readInto 52 = .ok (.ireturn, 1) := by decide +kernel
theorem dX1_readInto_53 : decode cX1_readInto 53 = .ok (.iinc 2 1, 3) := by decide +kernel
theorem dX1_readInto_56 : decode cX1_readInto 56 = .ok (.goto (-45), 3) := by decide +kernel
theorem dX1_readInto_59 : decode cX1_readInto 59 = .ok (.bipush (-4), 2) := by decide +kernel
theorem dX1_readInto_61 : decode cX1_readInto 61 = .ok (.ireturn, 1) := by decide +kernel
theorem dX1_readItem_0 : decode cX1_readItem 0 = .ok (.aload_n 0, 1) := by decide +kernel
theorem dX1_readItem_1 : decode cX1_readItem 1 = .ok (.invokevirtual 43, 3) := by decide +kernel
theorem dX1_readItem_4 : decode cX1_readItem 4 = .ok (.istore_n 3, 1) := by decide +kernel
theorem dX1_readItem_5 : decode cX1_readItem 5 = .ok (.aload_n 0, 1) := by decide +kernel
theorem dX1_readItem_6 : decode cX1_readItem 6 = .ok (.dup, 1) := by decide +kernel
theorem dX1_readItem_7 : decode cX1_readItem 7 = .ok (.getfield 36, 3) := by decide +kernel
theorem dX1_readItem_10 : decode cX1_readItem 10 = .ok (.iconst 1, 1) := by decide +kernel
theorem dX1_readItem_11 : decode cX1_readItem 11 = .ok (.iadd, 1) := by decide +kernel
theorem dX1_readItem_12 : decode cX1_readItem 12 = .ok (.putfield 36, 3) := by decide +kernel
theorem dX1_readItem_15 : decode cX1_readItem 15 = .ok (.aload_n 0, 1) := by decide +kernel
theorem dX1_readItem_16 : decode cX1_readItem 16 = .ok (.iload_n 3, 1) := by decide +kernel
theorem dX1_readItem_17 : decode cX1_readItem 17 = .ok (.invokestatic 47, 3) := by decide +kernel
theorem dX1_readItem_20 : decode cX1_readItem 20 = .ok (.invokevirtual 51, 3) := by decide +kernel
theorem dX1_readItem_23 : decode cX1_readItem 23 = .ok (.ifCond .ne 5, 3) := by decide +kernel
theorem dX1_readItem_26 : decode cX1_readItem 26 = .ok (.iconst 0, 1) := by decide +kernel
theorem dX1_readItem_27 : decode cX1_readItem 27 = .ok (.ireturn, 1) := by decide +kernel
theorem dX1_readItem_28 : decode cX1_readItem 28 = .ok (.aload_n 0, 1) := by decide +kernel
theorem dX1_readItem_29 : decode cX1_readItem 29 = .ok (.getfield 20, 3) := by decide +kernel
theorem dX1_readItem_32 : decode cX1_readItem 32 = .ok (.iconst 0, 1) := by decide +kernel
theorem dX1_readItem_33 : decode cX1_readItem 33 = .ok (.iconst 0, 1) := by decide +kernel
theorem dX1_readItem_34 : decode cX1_readItem 34 = .ok (.invokevirtual 55, 3) := by decide +kernel
theorem dX1_readItem_37 : decode cX1_readItem 37 = .ok (.istore 4, 2) := by decide +kernel
theorem dX1_readItem_39 : decode cX1_readItem 39 = .ok (.aload_n 0, 1) := by decide +kernel
theorem dX1_readItem_40 : decode cX1_readItem 40 = .ok (.getfield 20, 3) := by decide +kernel
theorem dX1_readItem_43 : decode cX1_readItem 43 = .ok (.iconst 0, 1) := by decide +kernel
theorem dX1_readItem_44 : decode cX1_readItem 44 = .ok (.iconst 1, 1) := by decide +kernel
theorem dX1_readItem_45 : decode cX1_readItem 45 = .ok (.invokevirtual 55, 3) := by decide +kernel
theorem dX1_readItem_48 : decode cX1_readItem 48 = .ok (.istore 5, 2) := by decide +kernel
theorem dX1_readItem_50 : decode cX1_readItem 50 = .ok (.aload_n 0, 1) := by decide +kernel
theorem dX1_readItem_51 : decode cX1_readItem 51 = .ok (.getfield 20, 3) := by decide +kernel
theorem dX1_readItem_54 : decode cX1_readItem 54 = .ok (.iconst 0, 1) := by decide +kernel
theorem dX1_readItem_55 : decode cX1_readItem 55 = .ok (.iconst 2, 1) := by decide +kernel
theorem dX1_readItem_56 : decode cX1_readItem 56 = .ok (.invokevirtual 55, 3) := by decide +kernel
theorem dX1_readItem_59 : decode cX1_readItem 59 = .ok (.istore 6, 2) := by decide +kernel
theorem dX1_readItem_61 : decode cX1_readItem 61 = .ok (.iload_n 3, 1) := by decide +kernel
theorem dX1_readItem_62 : decode cX1_readItem 62 = .ok (.tableswitch 104 110 119 #[54, 104, 84, 104, 73, 104, 104, 104, 104, 95], 54) := by decide +kernel
theorem dX1_readItem_116 : decode cX1_readItem 116 = .ok (.iload_n 2, 1) := by decide +kernel
theorem dX1_readItem_117 : decode cX1_readItem 117 = .ok (.ifCond .eq 16, 3) := by decide +kernel
theorem dX1_readItem_120 : decode cX1_readItem 120 = .ok (.aload_n 1, 1) := by decide +kernel
theorem dX1_readItem_121 : decode cX1_readItem 121 = .ok (.iload 4, 2) := by decide +kernel
theorem dX1_readItem_123 : decode cX1_readItem 123 = .ok (.invokevirtual 59, 3) := by decide +kernel
theorem dX1_readItem_126 : decode cX1_readItem 126 = .ok (.ifCond .eq 7, 3) := by decide +kernel
theorem dX1_readItem_129 : decode cX1_readItem 129 = .ok (.iconst 1, 1) := by decide +kernel
theorem dX1_readItem_130 : decode cX1_readItem 130 = .ok (.goto 4, 3) := by decide +kernel
theorem dX1_readItem_133 : decode cX1_readItem 133 = .ok (.iconst 0, 1) := by decide +kernel
theorem dX1_readItem_134 : decode cX1_readItem 134 = .ok (.ireturn, 1) := by decide +kernel
theorem dX1_readItem_135 : decode cX1_readItem 135 = .ok (.aload_n 1, 1) := by decide +kernel
theorem dX1_readItem_136 : decode cX1_readItem 136 = .ok (.iload 4, 2) := by decide +kernel
theorem dX1_readItem_138 : decode cX1_readItem 138 = .ok (.iload 5, 2) := by decide +kernel
theorem dX1_readItem_140 : decode cX1_readItem 140 = .ok (.iload 6, 2) := by decide +kernel
theorem dX1_readItem_142 : decode cX1_readItem 142 = .ok (.invokevirtual 62, 3) := by decide +kernel
theorem dX1_readItem_145 : decode cX1_readItem 145 = .ok (.ireturn, 1) := by decide +kernel
theorem dX1_readItem_146 : decode cX1_readItem 146 = .ok (.aload_n 1, 1) := by decide +kernel
theorem dX1_readItem_147 : decode cX1_readItem 147 = .ok (.iload 4, 2) := by decide +kernel
theorem dX1_readItem_149 : decode cX1_readItem 149 = .ok (.iload 5, 2) := by decide +kernel
theorem dX1_readItem_151 : decode cX1_readItem 151 = .ok (.iload 6, 2) := by decide +kernel
theorem dX1_readItem_153 : decode cX1_readItem 153 = .ok (.invokevirtual 66, 3) := by decide +kernel
theorem dX1_readItem_156 : decode cX1_readItem 156 = .ok (.ireturn, 1) := by decide +kernel
theorem dX1_readItem_157 : decode cX1_readItem 157 = .ok (.aload_n 1, 1) := by decide +kernel
theorem dX1_readItem_158 : decode cX1_readItem 158 = .ok (.iload 4, 2) := by decide +kernel
theorem dX1_readItem_160 : decode cX1_readItem 160 = .ok (.iload 5, 2) := by decide +kernel
theorem dX1_readItem_162 : decode cX1_readItem 162 = .ok (.invokevirtual 69, 3) := by decide +kernel
theorem dX1_readItem_165 : decode cX1_readItem 165 = .ok (.ireturn, 1) := by decide +kernel
theorem dX1_readItem_166 : decode cX1_readItem 166 = .ok (.iconst 0, 1) := by decide +kernel
theorem dX1_readItem_167 : decode cX1_readItem 167 = .ok (.ireturn, 1) := by decide +kernel
theorem dX1_numbersBehind_0 : decode cX1_numbersBehind 0 = .ok (.iload_n 0, 1) := by decide +kernel
theorem dX1_numbersBehind_1 : decode cX1_numbersBehind 1 = .ok (.tableswitch 63 110 119 #[55, 63, 59, 63, 57, 63, 63, 63, 63, 61], 55) := by decide +kernel
theorem dX1_numbersBehind_56 : decode cX1_numbersBehind 56 = .ok (.iconst 1, 1) := by decide +kernel
theorem dX1_numbersBehind_57 : decode cX1_numbersBehind 57 = .ok (.ireturn, 1) := by decide +kernel
theorem dX1_numbersBehind_58 : decode cX1_numbersBehind 58 = .ok (.iconst 3, 1) := by decide +kernel
theorem dX1_numbersBehind_59 : decode cX1_numbersBehind 59 = .ok (.ireturn, 1) := by decide +kernel
theorem dX1_numbersBehind_60 : decode cX1_numbersBehind 60 = .ok (.iconst 3, 1) := by decide +kernel
theorem dX1_numbersBehind_61 : decode cX1_numbersBehind 61 = .ok (.ireturn, 1) := by decide +kernel
theorem dX1_numbersBehind_62 : decode cX1_numbersBehind 62 = .ok (.iconst 2, 1) := by decide +kernel
theorem dX1_numbersBehind_63 : decode cX1_numbersBehind 63 = .ok (.ireturn, 1) := by decide +kernel
theorem dX1_numbersBehind_64 : decode cX1_numbersBehind 64 = .ok (.iconst 0, 1) := by decide +kernel
theorem dX1_numbersBehind_65 : decode cX1_numbersBehind 65 = .ok (.ireturn, 1) := by decide +kernel
theorem dX1_readNumbers_0 : decode cX1_readNumbers 0 = .ok (.iconst 0, 1) := by decide +kernel
theorem dX1_readNumbers_1 : decode cX1_readNumbers 1 = .ok (.istore_n 2, 1) := by decide +kernel
theorem dX1_readNumbers_2 : decode cX1_readNumbers 2 = .ok (.iload_n 2, 1) := by decide +kernel
theorem dX1_readNumbers_3 : decode cX1_readNumbers 3 = .ok (.iload_n 1, 1) := by decide +kernel
theorem dX1_readNumbers_4 : decode cX1_readNumbers 4 = .ok (.if_icmp .ge 88, 3) := by decide +kernel
theorem dX1_readNumbers_7 : decode cX1_readNumbers 7 = .ok (.aload_n 0, 1) := by decide +kernel
theorem dX1_readNumbers_8 : decode cX1_readNumbers 8 = .ok (.invokevirtual 73, 3) := by decide +kernel
theorem dX1_readNumbers_11 : decode cX1_readNumbers 11 = .ok (.istore_n 3, 1) := by decide +kernel
theorem dX1_readNumbers_12 : decode cX1_readNumbers 12 = .ok (.iload_n 3, 1) := by decide +kernel
theorem dX1_readNumbers_13 : decode cX1_readNumbers 13 = .ok (.bipush (-4), 2) := by decide +kernel
theorem dX1_readNumbers_15 : decode cX1_readNumbers 15 = .ok (.if_icmp .ne 5, 3) := by decide +kernel
theorem dX1_readNumbers_18 : decode cX1_readNumbers 18 = .ok (.iconst 0, 1) := by decide +kernel
theorem dX1_readNumbers_19 : decode cX1_readNumbers 19 = .ok (.ireturn, 1) := by decide +kernel
theorem dX1_readNumbers_20 : decode cX1_readNumbers 20 = .ok (.aload_n 0, 1) := by decide +kernel
theorem dX1_readNumbers_21 : decode cX1_readNumbers 21 = .ok (.invokevirtual 73, 3) := by decide +kernel
theorem dX1_readNumbers_24 : decode cX1_readNumbers 24 = .ok (.istore 4, 2) := by decide +kernel
theorem dX1_readNumbers_26 : decode cX1_readNumbers 26 = .ok (.aload_n 0, 1) := by decide +kernel
theorem dX1_readNumbers_27 : decode cX1_readNumbers 27 = .ok (.getfield 20, 3) := by decide +kernel
theorem dX1_readNumbers_30 : decode cX1_readNumbers 30 = .ok (.iconst 0, 1) := by decide +kernel
theorem dX1_readNumbers_31 : decode cX1_readNumbers 31 = .ok (.iload_n 2, 1) := by decide +kernel
theorem dX1_readNumbers_32 : decode cX1_readNumbers 32 = .ok (.iload 4, 2) := by decide +kernel
theorem dX1_readNumbers_34 : decode cX1_readNumbers 34 = .ok (.bipush (-4), 2) := by decide +kernel
theorem dX1_readNumbers_36 : decode cX1_readNumbers 36 = .ok (.if_icmp .ne 7, 3) := by decide +kernel
theorem dX1_readNumbers_39 : decode cX1_readNumbers 39 = .ok (.iload_n 3, 1) := by decide +kernel
theorem dX1_readNumbers_40 : decode cX1_readNumbers 40 = .ok (.goto 10, 3) := by decide +kernel
theorem dX1_readNumbers_43 : decode cX1_readNumbers 43 = .ok (.iload_n 3, 1) := by decide +kernel
theorem dX1_readNumbers_44 : decode cX1_readNumbers 44 = .ok (.bipush 10, 2) := by decide +kernel
theorem dX1_readNumbers_46 : decode cX1_readNumbers 46 = .ok (.imul, 1) := by decide +kernel
theorem dX1_readNumbers_47 : decode cX1_readNumbers 47 = .ok (.iload 4, 2) := by decide +kernel
theorem dX1_readNumbers_49 : decode cX1_readNumbers 49 = .ok (.iadd, 1) := by decide +kernel
theorem dX1_readNumbers_50 : decode cX1_readNumbers 50 = .ok (.invokevirtual 27, 3) := by decide +kernel
theorem dX1_readNumbers_53 : decode cX1_readNumbers 53 = .ok (.aload_n 0, 1) := by decide +kernel
theorem dX1_readNumbers_54 : decode cX1_readNumbers 54 = .ok (.invokevirtual 43, 3) := by decide +kernel
theorem dX1_readNumbers_57 : decode cX1_readNumbers 57 = .ok (.iload_n 2, 1) := by decide +kernel
theorem dX1_readNumbers_58 : decode cX1_readNumbers 58 = .ok (.iconst 1, 1) := by decide +kernel
theorem dX1_readNumbers_59 : decode cX1_readNumbers 59 = .ok (.iadd, 1) := by decide +kernel
theorem dX1_readNumbers_60 : decode cX1_readNumbers 60 = .ok (.iload_n 1, 1) := by decide +kernel
theorem dX1_readNumbers_61 : decode cX1_readNumbers 61 = .ok (.if_icmp .ge 8, 3) := by decide +kernel
theorem dX1_readNumbers_64 : decode cX1_readNumbers 64 = .ok (.bipush 44, 2) := by decide +kernel
theorem dX1_readNumbers_66 : decode cX1_readNumbers 66 = .ok (.goto 5, 3) := by decide +kernel
theorem dX1_readNumbers_69 : decode cX1_readNumbers 69 = .ok (.bipush 59, 2) := by decide +kernel
theorem dX1_readNumbers_71 : decode cX1_readNumbers 71 = .ok (.if_icmp .eq 5, 3) := by decide +kernel
theorem dX1_readNumbers_74 : decode cX1_readNumbers 74 = .ok (.iconst 0, 1) := by decide +kernel
theorem dX1_readNumbers_75 : decode cX1_readNumbers 75 = .ok (.ireturn, 1) := by decide +kernel
theorem dX1_readNumbers_76 : decode cX1_readNumbers 76 = .ok (.aload_n 0, 1) := by decide +kernel
theorem dX1_readNumbers_77 : decode cX1_readNumbers 77 = .ok (.dup, 1) := by decide +kernel
theorem dX1_readNumbers_78 : decode cX1_readNumbers 78 = .ok (.getfield 36, 3) := by decide +kernel
theorem dX1_readNumbers_81 : decode cX1_readNumbers 81 = .ok (.iconst 1, 1) := by decide +kernel
theorem dX1_readNumbers_82 : decode cX1_readNumbers 82 = .ok (.iadd, 1) := by decide +kernel
theorem dX1_readNumbers_83 : decode cX1_readNumbers 83 = .ok (.putfield 36, 3) := by decide +kernel
theorem dX1_readNumbers_86 : decode cX1_readNumbers 86 = .ok (.iinc 2 1, 3) := by decide +kernel
theorem dX1_readNumbers_89 : decode cX1_readNumbers 89 = .ok (.goto (-87), 3) := by decide +kernel
theorem dX1_readNumbers_92 : decode cX1_readNumbers 92 = .ok (.iconst 1, 1) := by decide +kernel
theorem dX1_readNumbers_93 : decode cX1_readNumbers 93 = .ok (.ireturn, 1) := by decide +kernel
theorem dX1_readFigure_0 : decode cX1_readFigure 0 = .ok (.aload_n 0, 1) := by decide +kernel
theorem dX1_readFigure_1 : decode cX1_readFigure 1 = .ok (.invokevirtual 43, 3) := by decide +kernel
theorem dX1_readFigure_4 : decode cX1_readFigure 4 = .ok (.istore_n 1, 1) := by decide +kernel
theorem dX1_readFigure_5 : decode cX1_readFigure 5 = .ok (.iload_n 1, 1) := by decide +kernel
theorem dX1_readFigure_6 : decode cX1_readFigure 6 = .ok (.bipush 48, 2) := by decide +kernel
theorem dX1_readFigure_8 : decode cX1_readFigure 8 = .ok (.if_icmp .lt 9, 3) := by decide +kernel
theorem dX1_readFigure_11 : decode cX1_readFigure 11 = .ok (.iload_n 1, 1) := by decide +kernel
theorem dX1_readFigure_12 : decode cX1_readFigure 12 = .ok (.bipush 57, 2) := by decide +kernel
theorem dX1_readFigure_14 : decode cX1_readFigure 14 = .ok (.if_icmp .le 6, 3) := by decide +kernel
theorem dX1_readFigure_17 : decode cX1_readFigure 17 = .ok (.bipush (-4), 2) := by decide +kernel
theorem dX1_readFigure_19 : decode cX1_readFigure 19 = .ok (.ireturn, 1) := by decide +kernel
theorem dX1_readFigure_20 : decode cX1_readFigure 20 = .ok (.aload_n 0, 1) := by decide +kernel
theorem dX1_readFigure_21 : decode cX1_readFigure 21 = .ok (.dup, 1) := by decide +kernel
theorem dX1_readFigure_22 : decode cX1_readFigure 22 = .ok (.getfield 36, 3) := by decide +kernel
theorem dX1_readFigure_25 : decode cX1_readFigure 25 = .ok (.iconst 1, 1) := by decide +kernel
theorem dX1_readFigure_26 : decode cX1_readFigure 26 = .ok (.iadd, 1) := by decide +kernel
theorem dX1_readFigure_27 : decode cX1_readFigure 27 = .ok (.putfield 36, 3) := by decide +kernel
theorem dX1_readFigure_30 : decode cX1_readFigure 30 = .ok (.iload_n 1, 1) := by decide +kernel
theorem dX1_readFigure_31 : decode cX1_readFigure 31 = .ok (.bipush 48, 2) := by decide +kernel
theorem dX1_readFigure_33 : decode cX1_readFigure 33 = .ok (.isub, 1) := by decide +kernel
theorem dX1_readFigure_34 : decode cX1_readFigure 34 = .ok (.ireturn, 1) := by decide +kernel
theorem dX1_letterHere_0 : decode cX1_letterHere 0 = .ok (.aload_n 0, 1) := by decide +kernel
theorem dX1_letterHere_1 : decode cX1_letterHere 1 = .ok (.getfield 36, 3) := by decide +kernel
theorem dX1_letterHere_4 : decode cX1_letterHere 4 = .ok (.aload_n 0, 1) := by decide +kernel
theorem dX1_letterHere_5 : decode cX1_letterHere 5 = .ok (.getfield 23, 3) := by decide +kernel
theorem dX1_letterHere_8 : decode cX1_letterHere 8 = .ok (.if_icmp .ge 18, 3) := by decide +kernel
theorem dX1_letterHere_11 : decode cX1_letterHere 11 = .ok (.aload_n 0, 1) := by decide +kernel
theorem dX1_letterHere_12 : decode cX1_letterHere 12 = .ok (.getfield 14, 3) := by decide +kernel
theorem dX1_letterHere_15 : decode cX1_letterHere 15 = .ok (.iconst 0, 1) := by decide +kernel
theorem dX1_letterHere_16 : decode cX1_letterHere 16 = .ok (.aload_n 0, 1) := by decide +kernel
theorem dX1_letterHere_17 : decode cX1_letterHere 17 = .ok (.getfield 36, 3) := by decide +kernel
theorem dX1_letterHere_20 : decode cX1_letterHere 20 = .ok (.invokevirtual 55, 3) := by decide +kernel
theorem dX1_letterHere_23 : decode cX1_letterHere 23 = .ok (.goto 5, 3) := by decide +kernel
theorem dX1_letterHere_26 : decode cX1_letterHere 26 = .ok (.bipush (-4), 2) := by decide +kernel
theorem dX1_letterHere_28 : decode cX1_letterHere 28 = .ok (.ireturn, 1) := by decide +kernel
theorem dX2_init_0 : decode cX2_init 0 = .ok (.aload_n 0, 1) := by decide +kernel
theorem dX2_init_1 : decode cX2_init 1 = .ok (.invokespecial 3, 3) := by decide +kernel
theorem dX2_init_4 : decode cX2_init 4 = .ok (.aload_n 0, 1) := by decide +kernel
theorem dX2_init_5 : decode cX2_init 5 = .ok (.new 9, 3) := by decide +kernel
theorem dX2_init_8 : decode cX2_init 8 = .ok (.dup, 1) := by decide +kernel
theorem dX2_init_9 : decode cX2_init 9 = .ok (.bipush 6, 2) := by decide +kernel
theorem dX2_init_11 : decode cX2_init 11 = .ok (.iconst 3, 1) := by decide +kernel
theorem dX2_init_12 : decode cX2_init 12 = .ok (.invokespecial 11, 3) := by decide +kernel
theorem dX2_init_15 : decode cX2_init 15 = .ok (.putfield 14, 3) := by decide +kernel
theorem dX2_init_18 : decode cX2_init 18 = .ok (.return_, 1) := by decide +kernel
theorem dX2_held_0 : decode cX2_held 0 = .ok (.aload_n 0, 1) := by decide +kernel
theorem dX2_held_1 : decode cX2_held 1 = .ok (.getfield 20, 3) := by decide +kernel
theorem dX2_held_4 : decode cX2_held 4 = .ok (.ireturn, 1) := by decide +kernel
theorem dX2_number_0 : decode cX2_number 0 = .ok (.aload_n 0, 1) := by decide +kernel
theorem dX2_number_1 : decode cX2_number 1 = .ok (.getfield 14, 3) := by decide +kernel
theorem dX2_number_4 : decode cX2_number 4 = .ok (.iload_n 1, 1) := by decide +kernel
theorem dX2_number_5 : decode cX2_number 5 = .ok (.iload_n 2, 1) := by decide +kernel
theorem dX2_number_6 : decode cX2_number 6 = .ok (.invokevirtual 24, 3) := by decide +kernel
theorem dX2_number_9 : decode cX2_number 9 = .ok (.ireturn, 1) := by decide +kernel
theorem dX2_add_0 : decode cX2_add 0 = .ok (.aload_n 0, 1) := by decide +kernel
theorem dX2_add_1 : decode cX2_add 1 = .ok (.getfield 20, 3) := by decide +kernel
theorem dX2_add_4 : decode cX2_add 4 = .ok (.bipush 6, 2) := by decide +kernel
theorem dX2_add_6 : decode cX2_add 6 = .ok (.if_icmp .lt 6, 3) := by decide +kernel
theorem dX2_add_9 : decode cX2_add 9 = .ok (.bipush (-3), 2) := by decide +kernel
theorem dX2_add_11 : decode cX2_add 11 = .ok (.ireturn, 1) := by decide +kernel
theorem dX2_add_12 : decode cX2_add 12 = .ok (.aload_n 0, 1) := by decide +kernel
theorem dX2_add_13 : decode cX2_add 13 = .ok (.getfield 14, 3) := by decide +kernel
theorem dX2_add_16 : decode cX2_add 16 = .ok (.aload_n 0, 1) := by decide +kernel
theorem dX2_add_17 : decode cX2_add 17 = .ok (.getfield 20, 3) := by decide +kernel
theorem dX2_add_20 : decode cX2_add 20 = .ok (.iconst 0, 1) := by decide +kernel
theorem dX2_add_21 : decode cX2_add 21 = .ok (.iload_n 1, 1) := by decide +kernel
theorem dX2_add_22 : decode cX2_add 22 = .ok (.invokevirtual 28, 3) := by decide +kernel
theorem dX2_add_25 : decode cX2_add 25 = .ok (.aload_n 0, 1) := by decide +kernel
theorem dX2_add_26 : decode cX2_add 26 = .ok (.getfield 14, 3) := by decide +kernel
theorem dX2_add_29 : decode cX2_add 29 = .ok (.aload_n 0, 1) := by decide +kernel
theorem dX2_add_30 : decode cX2_add 30 = .ok (.getfield 20, 3) := by decide +kernel
theorem dX2_add_33 : decode cX2_add 33 = .ok (.iconst 1, 1) := by decide +kernel
theorem dX2_add_34 : decode cX2_add 34 = .ok (.iload_n 2, 1) := by decide +kernel
theorem dX2_add_35 : decode cX2_add 35 = .ok (.invokevirtual 28, 3) := by decide +kernel
theorem dX2_add_38 : decode cX2_add 38 = .ok (.aload_n 0, 1) := by decide +kernel
theorem dX2_add_39 : decode cX2_add 39 = .ok (.getfield 14, 3) := by decide +kernel
theorem dX2_add_42 : decode cX2_add 42 = .ok (.aload_n 0, 1) := by decide +kernel
theorem dX2_add_43 : decode cX2_add 43 = .ok (.getfield 20, 3) := by decide +kernel
theorem dX2_add_46 : decode cX2_add 46 = .ok (.iconst 2, 1) := by decide +kernel
theorem dX2_add_47 : decode cX2_add 47 = .ok (.iload_n 3, 1) := by decide +kernel
theorem dX2_add_48 : decode cX2_add 48 = .ok (.invokevirtual 28, 3) := by decide +kernel
theorem dX2_add_51 : decode cX2_add 51 = .ok (.aload_n 0, 1) := by decide +kernel
theorem dX2_add_52 : decode cX2_add 52 = .ok (.dup, 1) := by decide +kernel
theorem dX2_add_53 : decode cX2_add 53 = .ok (.getfield 20, 3) := by decide +kernel
theorem dX2_add_56 : decode cX2_add 56 = .ok (.iconst 1, 1) := by decide +kernel
theorem dX2_add_57 : decode cX2_add 57 = .ok (.iadd, 1) := by decide +kernel
theorem dX2_add_58 : decode cX2_add 58 = .ok (.putfield 20, 3) := by decide +kernel
theorem dX2_add_61 : decode cX2_add 61 = .ok (.aload_n 0, 1) := by decide +kernel
theorem dX2_add_62 : decode cX2_add 62 = .ok (.getfield 20, 3) := by decide +kernel
theorem dX2_add_65 : decode cX2_add 65 = .ok (.ireturn, 1) := by decide +kernel
theorem dX2_empty_0 : decode cX2_empty 0 = .ok (.aload_n 0, 1) := by decide +kernel
theorem dX2_empty_1 : decode cX2_empty 1 = .ok (.getfield 20, 3) := by decide +kernel
theorem dX2_empty_4 : decode cX2_empty 4 = .ok (.istore_n 1, 1) := by decide +kernel
theorem dX2_empty_5 : decode cX2_empty 5 = .ok (.aload_n 0, 1) := by decide +kernel
theorem dX2_empty_6 : decode cX2_empty 6 = .ok (.iconst 0, 1) := by decide +kernel
theorem dX2_empty_7 : decode cX2_empty 7 = .ok (.putfield 20, 3) := by decide +kernel
theorem dX2_empty_10 : decode cX2_empty 10 = .ok (.iload_n 1, 1) := by decide +kernel
theorem dX2_empty_11 : decode cX2_empty 11 = .ok (.ireturn, 1) := by decide +kernel
theorem dX3_init_0 : decode cX3_init 0 = .ok (.aload_n 0, 1) := by decide +kernel
theorem dX3_init_1 : decode cX3_init 1 = .ok (.invokespecial 3, 3) := by decide +kernel
theorem dX3_init_4 : decode cX3_init 4 = .ok (.aload_n 0, 1) := by decide +kernel
theorem dX3_init_5 : decode cX3_init 5 = .ok (.bipush 6, 2) := by decide +kernel
theorem dX3_init_7 : decode cX3_init 7 = .ok (.putfield 9, 3) := by decide +kernel
theorem dX3_init_10 : decode cX3_init 10 = .ok (.aload_n 0, 1) := by decide +kernel
theorem dX3_init_11 : decode cX3_init 11 = .ok (.new 15, 3) := by decide +kernel
theorem dX3_init_14 : decode cX3_init 14 = .ok (.dup, 1) := by decide +kernel
theorem dX3_init_15 : decode cX3_init 15 = .ok (.bipush 8, 2) := by decide +kernel
theorem dX3_init_17 : decode cX3_init 17 = .ok (.bipush 8, 2) := by decide +kernel
theorem dX3_init_19 : decode cX3_init 19 = .ok (.invokespecial 17, 3) := by decide +kernel
theorem dX3_init_22 : decode cX3_init 22 = .ok (.putfield 20, 3) := by decide +kernel
theorem dX3_init_25 : decode cX3_init 25 = .ok (.aload_n 0, 1) := by decide +kernel
theorem dX3_init_26 : decode cX3_init 26 = .ok (.new 15, 3) := by decide +kernel
theorem dX3_init_29 : decode cX3_init 29 = .ok (.dup, 1) := by decide +kernel
theorem dX3_init_30 : decode cX3_init 30 = .ok (.bipush 8, 2) := by decide +kernel
theorem dX3_init_32 : decode cX3_init 32 = .ok (.bipush 8, 2) := by decide +kernel
theorem dX3_init_34 : decode cX3_init 34 = .ok (.invokespecial 17, 3) := by decide +kernel
theorem dX3_init_37 : decode cX3_init 37 = .ok (.putfield 24, 3) := by decide +kernel
theorem dX3_init_40 : decode cX3_init 40 = .ok (.return_, 1) := by decide +kernel
theorem dX3_become_0 : decode cX3_become 0 = .ok (.aload_n 0, 1) := by decide +kernel
theorem dX3_become_1 : decode cX3_become 1 = .ok (.aload_n 1, 1) := by decide +kernel
theorem dX3_become_2 : decode cX3_become 2 = .ok (.getfield 9, 3) := by decide +kernel
theorem dX3_become_5 : decode cX3_become 5 = .ok (.putfield 9, 3) := by decide +kernel
theorem dX3_become_8 : decode cX3_become 8 = .ok (.aload_n 0, 1) := by decide +kernel
theorem dX3_become_9 : decode cX3_become 9 = .ok (.getfield 20, 3) := by decide +kernel
theorem dX3_become_12 : decode cX3_become 12 = .ok (.aload_n 1, 1) := by decide +kernel
theorem dX3_become_13 : decode cX3_become 13 = .ok (.getfield 20, 3) := by decide +kernel
theorem dX3_become_16 : decode cX3_become 16 = .ok (.invokevirtual 27, 3) := by decide +kernel
theorem dX3_become_19 : decode cX3_become 19 = .ok (.aload_n 0, 1) := by decide +kernel
theorem dX3_become_20 : decode cX3_become 20 = .ok (.getfield 24, 3) := by decide +kernel
theorem dX3_become_23 : decode cX3_become 23 = .ok (.aload_n 1, 1) := by decide +kernel
theorem dX3_become_24 : decode cX3_become 24 = .ok (.getfield 24, 3) := by decide +kernel
theorem dX3_become_27 : decode cX3_become 27 = .ok (.invokevirtual 27, 3) := by decide +kernel
theorem dX3_become_30 : decode cX3_become 30 = .ok (.return_, 1) := by decide +kernel
theorem dX3_clear_0 : decode cX3_clear 0 = .ok (.aload_n 0, 1) := by decide +kernel
theorem dX3_clear_1 : decode cX3_clear 1 = .ok (.iconst 0, 1) := by decide +kernel
theorem dX3_clear_2 : decode cX3_clear 2 = .ok (.iload_n 1, 1) := by decide +kernel
theorem dX3_clear_3 : decode cX3_clear 3 = .ok (.bipush 8, 2) := by decide +kernel
theorem dX3_clear_5 : decode cX3_clear 5 = .ok (.invokestatic 31, 3) := by decide +kernel
theorem dX3_clear_8 : decode cX3_clear 8 = .ok (.invokestatic 37, 3) := by decide +kernel
theorem dX3_clear_11 : decode cX3_clear 11 = .ok (.putfield 9, 3) := by decide +kernel
theorem dX3_clear_14 : decode cX3_clear 14 = .ok (.aload_n 0, 1) := by decide +kernel
theorem dX3_clear_15 : decode cX3_clear 15 = .ok (.getfield 20, 3) := by decide +kernel
theorem dX3_clear_18 : decode cX3_clear 18 = .ok (.iconst 0, 1) := by decide +kernel
theorem dX3_clear_19 : decode cX3_clear 19 = .ok (.invokevirtual 40, 3) := by decide +kernel
theorem dX3_clear_22 : decode cX3_clear 22 = .ok (.return_, 1) := by decide +kernel
theorem dX3_towns_0 : decode cX3_towns 0 = .ok (.aload_n 0, 1) := by decide +kernel
theorem dX3_towns_1 : decode cX3_towns 1 = .ok (.getfield 9, 3) := by decide +kernel
theorem dX3_towns_4 : decode cX3_towns 4 = .ok (.ireturn, 1) := by decide +kernel
theorem dX3_change_0 : decode cX3_change 0 = .ok (.aload_n 0, 1) := by decide +kernel
theorem dX3_change_1 : decode cX3_change 1 = .ok (.iload_n 1, 1) := by decide +kernel
theorem dX3_change_2 : decode cX3_change 2 = .ok (.iload_n 2, 1) := by decide +kernel
theorem dX3_change_3 : decode cX3_change 3 = .ok (.iload_n 3, 1) := by decide +kernel
theorem dX3_change_4 : decode cX3_change 4 = .ok (.invokevirtual 44, 3) := by decide +kernel
theorem dX3_change_7 : decode cX3_change 7 = .ok (.aload_n 0, 1) := by decide +kernel
theorem dX3_change_8 : decode cX3_change 8 = .ok (.invokevirtual 48, 3) := by decide +kernel
theorem dX3_change_11 : decode cX3_change 11 = .ok (.return_, 1) := by decide +kernel
theorem dX3_set_0 : decode cX3_set 0 = .ok (.aload_n 0, 1) := by decide +kernel
theorem dX3_set_1 : decode cX3_set 1 = .ok (.getfield 20, 3) := by decide +kernel
theorem dX3_set_4 : decode cX3_set 4 = .ok (.iload_n 1, 1) := by decide +kernel
theorem dX3_set_5 : decode cX3_set 5 = .ok (.iload_n 2, 1) := by decide +kernel
theorem dX3_set_6 : decode cX3_set 6 = .ok (.iload_n 3, 1) := by decide +kernel
theorem dX3_set_7 : decode cX3_set 7 = .ok (.invokevirtual 51, 3) := by decide +kernel
theorem dX3_set_10 : decode cX3_set 10 = .ok (.aload_n 0, 1) := by decide +kernel
theorem dX3_set_11 : decode cX3_set 11 = .ok (.getfield 20, 3) := by decide +kernel
theorem dX3_set_14 : decode cX3_set 14 = .ok (.iload_n 2, 1) := by decide +kernel
theorem dX3_set_15 : decode cX3_set 15 = .ok (.iload_n 1, 1) := by decide +kernel
theorem dX3_set_16 : decode cX3_set 16 = .ok (.iload_n 3, 1) := by decide +kernel
theorem dX3_set_17 : decode cX3_set 17 = .ok (.invokevirtual 51, 3) := by decide +kernel
theorem dX3_set_20 : decode cX3_set 20 = .ok (.return_, 1) := by decide +kernel
theorem dX3_survey_0 : decode cX3_survey 0 = .ok (.iconst 0, 1) := by decide +kernel
theorem dX3_survey_1 : decode cX3_survey 1 = .ok (.istore_n 1, 1) := by decide +kernel
theorem dX3_survey_2 : decode cX3_survey 2 = .ok (.iload_n 1, 1) := by decide +kernel
theorem dX3_survey_3 : decode cX3_survey 3 = .ok (.aload_n 0, 1) := by decide +kernel
theorem dX3_survey_4 : decode cX3_survey 4 = .ok (.getfield 9, 3) := by decide +kernel
theorem dX3_survey_7 : decode cX3_survey 7 = .ok (.if_icmp .ge 63, 3) := by decide +kernel
theorem dX3_survey_10 : decode cX3_survey 10 = .ok (.iconst 0, 1) := by decide +kernel
theorem dX3_survey_11 : decode cX3_survey 11 = .ok (.istore_n 2, 1) := by decide +kernel
theorem dX3_survey_12 : decode cX3_survey 12 = .ok (.iload_n 2, 1) := by decide +kernel
theorem dX3_survey_13 : decode cX3_survey 13 = .ok (.aload_n 0, 1) := by decide +kernel
theorem dX3_survey_14 : decode cX3_survey 14 = .ok (.getfield 9, 3) := by decide +kernel
theorem dX3_survey_17 : decode cX3_survey 17 = .ok (.if_icmp .ge 47, 3) := by decide +kernel
theorem dX3_survey_20 : decode cX3_survey 20 = .ok (.aload_n 0, 1) := by decide +kernel
theorem dX3_survey_21 : decode cX3_survey 21 = .ok (.getfield 20, 3) := by decide +kernel
theorem dX3_survey_24 : decode cX3_survey 24 = .ok (.iload_n 1, 1) := by decide +kernel
theorem dX3_survey_25 : decode cX3_survey 25 = .ok (.iload_n 2, 1) := by decide +kernel
theorem dX3_survey_26 : decode cX3_survey 26 = .ok (.invokevirtual 54, 3) := by decide +kernel
theorem dX3_survey_29 : decode cX3_survey 29 = .ok (.istore_n 3, 1) := by decide +kernel
theorem dX3_survey_30 : decode cX3_survey 30 = .ok (.aload_n 0, 1) := by decide +kernel
theorem dX3_survey_31 : decode cX3_survey 31 = .ok (.getfield 24, 3) := by decide +kernel
theorem dX3_survey_34 : decode cX3_survey 34 = .ok (.iload_n 1, 1) := by decide +kernel
theorem dX3_survey_35 : decode cX3_survey 35 = .ok (.iload_n 2, 1) := by decide +kernel
theorem dX3_survey_36 : decode cX3_survey 36 = .ok (.iload_n 1, 1) := by decide +kernel
theorem dX3_survey_37 : decode cX3_survey 37 = .ok (.iload_n 2, 1) := by decide +kernel
theorem dX3_survey_38 : decode cX3_survey 38 = .ok (.if_icmp .ne 7, 3) := by decide +kernel
theorem dX3_survey_41 : decode cX3_survey 41 = .ok (.iconst 0, 1) := by decide +kernel
theorem dX3_survey_42 : decode cX3_survey 42 = .ok (.goto 13, 3) := by decide +kernel
theorem dX3_survey_45 : decode cX3_survey 45 = .ok (.iload_n 3, 1) := by decide +kernel
theorem dX3_survey_46 : decode cX3_survey 46 = .ok (.ifCond .le 7, 3) := by decide +kernel
theorem dX3_survey_49 : decode cX3_survey 49 = .ok (.iload_n 3, 1) := by decide +kernel
theorem dX3_survey_50 : decode cX3_survey 50 = .ok (.goto 5, 3) := by decide +kernel
theorem dX3_survey_53 : decode cX3_survey 53 = .ok (.bipush (-4), 2) := by decide +kernel
theorem dX3_survey_55 : decode cX3_survey 55 = .ok (.invokevirtual 51, 3) := by decide +kernel
theorem dX3_survey_58 : decode cX3_survey 58 = .ok (.iinc 2 1, 3) := by decide +kernel
theorem dX3_survey_61 : decode cX3_survey 61 = .ok (.goto (-49), 3) := by decide +kernel
theorem dX3_survey_64 : decode cX3_survey 64 = .ok (.iinc 1 1, 3) := by decide +kernel
theorem dX3_survey_67 : decode cX3_survey 67 = .ok (.goto (-65), 3) := by decide +kernel
theorem dX3_survey_70 : decode cX3_survey 70 = .ok (.iconst 0, 1) := by decide +kernel
theorem dX3_survey_71 : decode cX3_survey 71 = .ok (.istore_n 1, 1) := by decide +kernel
theorem dX3_survey_72 : decode cX3_survey 72 = .ok (.iload_n 1, 1) := by decide +kernel
theorem dX3_survey_73 : decode cX3_survey 73 = .ok (.aload_n 0, 1) := by decide +kernel
theorem dX3_survey_74 : decode cX3_survey 74 = .ok (.getfield 9, 3) := by decide +kernel
theorem dX3_survey_77 : decode cX3_survey 77 = .ok (.if_icmp .ge 48, 3) := by decide +kernel
theorem dX3_survey_80 : decode cX3_survey 80 = .ok (.iconst 0, 1) := by decide +kernel
theorem dX3_survey_81 : decode cX3_survey 81 = .ok (.istore_n 2, 1) := by decide +kernel
theorem dX3_survey_82 : decode cX3_survey 82 = .ok (.iload_n 2, 1) := by decide +kernel
theorem dX3_survey_83 : decode cX3_survey 83 = .ok (.aload_n 0, 1) := by decide +kernel
theorem dX3_survey_84 : decode cX3_survey 84 = .ok (.getfield 9, 3) := by decide +kernel
theorem dX3_survey_87 : decode cX3_survey 87 = .ok (.if_icmp .ge 32, 3) := by decide +kernel
theorem dX3_survey_90 : decode cX3_survey 90 = .ok (.iconst 0, 1) := by decide +kernel
theorem dX3_survey_91 : decode cX3_survey 91 = .ok (.istore_n 3, 1) := by decide +kernel
theorem dX3_survey_92 : decode cX3_survey 92 = .ok (.iload_n 3, 1) := by decide +kernel
theorem dX3_survey_93 : decode cX3_survey 93 = .ok (.aload_n 0, 1) := by decide +kernel
theorem dX3_survey_94 : decode cX3_survey 94 = .ok (.getfield 9, 3) := by decide +kernel
theorem dX3_survey_97 : decode cX3_survey 97 = .ok (.if_icmp .ge 16, 3) := by decide +kernel
theorem dX3_survey_100 : decode cX3_survey 100 = .ok (.aload_n 0, 1) := by decide +kernel
theorem dX3_survey_101 : decode cX3_survey 101 = .ok (.iload_n 2, 1) := by decide +kernel
theorem dX3_survey_102 : decode cX3_survey 102 = .ok (.iload_n 1, 1) := by decide +kernel
theorem dX3_survey_103 : decode cX3_survey 103 = .ok (.iload_n 3, 1) := by decide +kernel
theorem dX3_survey_104 : decode cX3_survey 104 = .ok (.invokevirtual 57, 3) := by decide +kernel
theorem dX3_survey_107 : decode cX3_survey 107 = .ok (.iinc 3 1, 3) := by decide +kernel
theorem dX3_survey_110 : decode cX3_survey 110 = .ok (.goto (-18), 3) := by decide +kernel
theorem dX3_survey_113 : decode cX3_survey 113 = .ok (.iinc 2 1, 3) := by decide +kernel
theorem dX3_survey_116 : decode cX3_survey 116 = .ok (.goto (-34), 3) := by decide +kernel
theorem dX3_survey_119 : decode cX3_survey 119 = .ok (.iinc 1 1, 3) := by decide +kernel
theorem dX3_survey_122 : decode cX3_survey 122 = .ok (.goto (-50), 3) := by decide +kernel
theorem dX3_survey_125 : decode cX3_survey 125 = .ok (.return_, 1) := by decide +kernel
theorem dX3_shorten_0 : decode cX3_shorten 0 = .ok (.aload_n 0, 1) := by decide +kernel
theorem dX3_shorten_1 : decode cX3_shorten 1 = .ok (.getfield 24, 3) := by decide +kernel
theorem dX3_shorten_4 : decode cX3_shorten 4 = .ok (.iload_n 1, 1) := by decide +kernel
theorem dX3_shorten_5 : decode cX3_shorten 5 = .ok (.iload_n 2, 1) := by decide +kernel
theorem dX3_shorten_6 : decode cX3_shorten 6 = .ok (.invokevirtual 54, 3) := by decide +kernel
theorem dX3_shorten_9 : decode cX3_shorten 9 = .ok (.istore 4, 2) := by decide +kernel
theorem dX3_shorten_11 : decode cX3_shorten 11 = .ok (.aload_n 0, 1) := by decide +kernel
theorem dX3_shorten_12 : decode cX3_shorten 12 = .ok (.getfield 24, 3) := by decide +kernel
theorem dX3_shorten_15 : decode cX3_shorten 15 = .ok (.iload_n 2, 1) := by decide +kernel
theorem dX3_shorten_16 : decode cX3_shorten 16 = .ok (.iload_n 3, 1) := by decide +kernel
theorem dX3_shorten_17 : decode cX3_shorten 17 = .ok (.invokevirtual 54, 3) := by decide +kernel
theorem dX3_shorten_20 : decode cX3_shorten 20 = .ok (.istore 5, 2) := by decide +kernel
theorem dX3_shorten_22 : decode cX3_shorten 22 = .ok (.aload_n 0, 1) := by decide +kernel
theorem dX3_shorten_23 : decode cX3_shorten 23 = .ok (.getfield 24, 3) := by decide +kernel
theorem dX3_shorten_26 : decode cX3_shorten 26 = .ok (.iload_n 1, 1) := by decide +kernel
theorem dX3_shorten_27 : decode cX3_shorten 27 = .ok (.iload_n 3, 1) := by decide +kernel
theorem dX3_shorten_28 : decode cX3_shorten 28 = .ok (.invokevirtual 54, 3) := by decide +kernel
theorem dX3_shorten_31 : decode cX3_shorten 31 = .ok (.istore 6, 2) := by decide +kernel
theorem dX3_shorten_33 : decode cX3_shorten 33 = .ok (.iload 4, 2) := by decide +kernel
theorem dX3_shorten_35 : decode cX3_shorten 35 = .ok (.bipush (-4), 2) := by decide +kernel
theorem dX3_shorten_37 : decode cX3_shorten 37 = .ok (.if_icmp .eq 41, 3) := by decide +kernel
theorem dX3_shorten_40 : decode cX3_shorten 40 = .ok (.iload 5, 2) := by decide +kernel
theorem dX3_shorten_42 : decode cX3_shorten 42 = .ok (.bipush (-4), 2) := by decide +kernel
theorem dX3_shorten_44 : decode cX3_shorten 44 = .ok (.if_icmp .eq 34, 3) := by decide +kernel
theorem dX3_shorten_47 : decode cX3_shorten 47 = .ok (.iload 6, 2) := by decide +kernel
theorem dX3_shorten_49 : decode cX3_shorten 49 = .ok (.bipush (-4), 2) := by decide +kernel
theorem dX3_shorten_51 : decode cX3_shorten 51 = .ok (.if_icmp .eq 13, 3) := by decide +kernel
theorem dX3_shorten_54 : decode cX3_shorten 54 = .ok (.iload 4, 2) := by decide +kernel
theorem dX3_shorten_56 : decode cX3_shorten 56 = .ok (.iload 5, 2) := by decide +kernel
theorem dX3_shorten_58 : decode cX3_shorten 58 = .ok (.iadd, 1) := by decide +kernel
theorem dX3_shorten_59 : decode cX3_shorten 59 = .ok (.iload 6, 2) := by decide +kernel
theorem dX3_shorten_61 : decode cX3_shorten 61 = .ok (.if_icmp .ge 17, 3) := by decide +kernel
theorem dX3_shorten_64 : decode cX3_shorten 64 = .ok (.aload_n 0, 1) := by decide +kernel
theorem dX3_shorten_65 : decode cX3_shorten 65 = .ok (.getfield 24, 3) := by decide +kernel
theorem dX3_shorten_68 : decode cX3_shorten 68 = .ok (.iload_n 1, 1) := by decide +kernel
theorem dX3_shorten_69 : decode cX3_shorten 69 = .ok (.iload_n 3, 1) := by decide +kernel
theorem dX3_shorten_70 : decode cX3_shorten 70 = .ok (.iload 4, 2) := by decide +kernel
theorem dX3_shorten_72 : decode cX3_shorten 72 = .ok (.iload 5, 2) := by decide +kernel
theorem dX3_shorten_74 : decode cX3_shorten 74 = .ok (.iadd, 1) := by decide +kernel
theorem dX3_shorten_75 : decode cX3_shorten 75 = .ok (.invokevirtual 51, 3) := by decide +kernel
theorem dX3_shorten_78 : decode cX3_shorten 78 = .ok (.return_, 1) := by decide +kernel
theorem dX3_between_0 : decode cX3_between 0 = .ok (.aload_n 0, 1) := by decide +kernel
theorem dX3_between_1 : decode cX3_between 1 = .ok (.getfield 20, 3) := by decide +kernel
theorem dX3_between_4 : decode cX3_between 4 = .ok (.iload_n 1, 1) := by decide +kernel
theorem dX3_between_5 : decode cX3_between 5 = .ok (.iload_n 2, 1) := by decide +kernel
theorem dX3_between_6 : decode cX3_between 6 = .ok (.invokevirtual 54, 3) := by decide +kernel
theorem dX3_between_9 : decode cX3_between 9 = .ok (.ireturn, 1) := by decide +kernel
theorem dX3_pathMiles_0 : decode cX3_pathMiles 0 = .ok (.aload_n 0, 1) := by decide +kernel
theorem dX3_pathMiles_1 : decode cX3_pathMiles 1 = .ok (.getfield 24, 3) := by decide +kernel
theorem dX3_pathMiles_4 : decode cX3_pathMiles 4 = .ok (.iload_n 1, 1) := by decide +kernel
theorem dX3_pathMiles_5 : decode cX3_pathMiles 5 = .ok (.iload_n 2, 1) := by decide +kernel
theorem dX3_pathMiles_6 : decode cX3_pathMiles 6 = .ok (.invokevirtual 54, 3) := by decide +kernel
theorem dX3_pathMiles_9 : decode cX3_pathMiles 9 = .ok (.ireturn, 1) := by decide +kernel
theorem dX3_firstStep_0 : decode cX3_firstStep 0 = .ok (.aload_n 0, 1) := by decide +kernel
theorem dX3_firstStep_1 : decode cX3_firstStep 1 = .ok (.getfield 24, 3) := by decide +kernel
theorem dX3_firstStep_4 : decode cX3_firstStep 4 = .ok (.iload_n 1, 1) := by decide +kernel
theorem dX3_firstStep_5 : decode cX3_firstStep 5 = .ok (.iload_n 2, 1) := by decide +kernel
theorem dX3_firstStep_6 : decode cX3_firstStep 6 = .ok (.invokevirtual 54, 3) := by decide +kernel
theorem dX3_firstStep_9 : decode cX3_firstStep 9 = .ok (.istore_n 3, 1) := by decide +kernel
theorem dX3_firstStep_10 : decode cX3_firstStep 10 = .ok (.iload_n 1, 1) := by decide +kernel
theorem dX3_firstStep_11 : decode cX3_firstStep 11 = .ok (.iload_n 2, 1) := by decide +kernel
theorem dX3_firstStep_12 : decode cX3_firstStep 12 = .ok (.if_icmp .eq 9, 3) := by decide +kernel
theorem dX3_firstStep_15 : decode cX3_firstStep 15 = .ok (.iload_n 3, 1) := by decide +kernel
theorem dX3_firstStep_16 : decode cX3_firstStep 16 = .ok (.bipush (-4), 2) := by decide +kernel
theorem dX3_firstStep_18 : decode cX3_firstStep 18 = .ok (.if_icmp .ne 6, 3) := by decide +kernel
theorem dX3_firstStep_21 : decode cX3_firstStep 21 = .ok (.bipush (-4), 2) := by decide +kernel
theorem dX3_firstStep_23 : decode cX3_firstStep 23 = .ok (.ireturn, 1) := by decide +kernel
theorem dX3_firstStep_24 : decode cX3_firstStep 24 = .ok (.iconst 0, 1) := by decide +kernel
theorem dX3_firstStep_25 : decode cX3_firstStep 25 = .ok (.istore 4, 2) := by decide +kernel
theorem dX3_firstStep_27 : decode cX3_firstStep 27 = .ok (.iload 4, 2) := by decide +kernel
theorem dX3_firstStep_29 : decode cX3_firstStep 29 = .ok (.aload_n 0, 1) := by decide +kernel
theorem dX3_firstStep_30 : decode cX3_firstStep 30 = .ok (.getfield 9, 3) := by decide +kernel
theorem dX3_firstStep_33 : decode cX3_firstStep 33 = .ok (.if_icmp .ge 57, 3) := by decide +kernel
theorem dX3_firstStep_36 : decode cX3_firstStep 36 = .ok (.aload_n 0, 1) := by decide +kernel
theorem dX3_firstStep_37 : decode cX3_firstStep 37 = .ok (.getfield 20, 3) := by decide +kernel
theorem dX3_firstStep_40 : decode cX3_firstStep 40 = .ok (.iload_n 1, 1) := by decide +kernel
theorem dX3_firstStep_41 : decode cX3_firstStep 41 = .ok (.iload 4, 2) := by decide +kernel
theorem dX3_firstStep_43 : decode cX3_firstStep 43 = .ok (.invokevirtual 54, 3) := by decide +kernel
theorem dX3_firstStep_46 : decode cX3_firstStep 46 = .ok (.istore 5, 2) := by decide +kernel
theorem dX3_firstStep_48 : decode cX3_firstStep 48 = .ok (.aload_n 0, 1) := by decide +kernel
theorem dX3_firstStep_49 : decode cX3_firstStep 49 = .ok (.getfield 24, 3) := by decide +kernel
theorem dX3_firstStep_52 : decode cX3_firstStep 52 = .ok (.iload 4, 2) := by decide +kernel
theorem dX3_firstStep_54 : decode cX3_firstStep 54 = .ok (.iload_n 2, 1) := by decide +kernel
theorem dX3_firstStep_55 : decode cX3_firstStep 55 = .ok (.invokevirtual 54, 3) := by decide +kernel
theorem dX3_firstStep_58 : decode cX3_firstStep 58 = .ok (.istore 6, 2) := by decide +kernel
theorem dX3_firstStep_60 : decode cX3_firstStep 60 = .ok (.iload 5, 2) := by decide +kernel
theorem dX3_firstStep_62 : decode cX3_firstStep 62 = .ok (.ifCond .le 22, 3) := by decide +kernel
theorem dX3_firstStep_65 : decode cX3_firstStep 65 = .ok (.iload 6, 2) := by decide +kernel
theorem dX3_firstStep_67 : decode cX3_firstStep 67 = .ok (.bipush (-4), 2) := by decide +kernel
theorem dX3_firstStep_69 : decode cX3_firstStep 69 = .ok (.if_icmp .eq 15, 3) := by decide +kernel
theorem dX3_firstStep_72 : decode cX3_firstStep 72 = .ok (.iload 5, 2) := by decide +kernel
theorem dX3_firstStep_74 : decode cX3_firstStep 74 = .ok (.iload 6, 2) := by decide +kernel
theorem dX3_firstStep_76 : decode cX3_firstStep 76 = .ok (.iadd, 1) := by decide +kernel
theorem dX3_firstStep_77 : decode cX3_firstStep 77 = .ok (.iload_n 3, 1) := by decide +kernel
theorem dX3_firstStep_78 : decode cX3_firstStep 78 = .ok (.if_icmp .ne 6, 3) := by decide +kernel
theorem dX3_firstStep_81 : decode cX3_firstStep 81 = .ok (.iload 4, 2) := by decide +kernel
theorem dX3_firstStep_83 : decode cX3_firstStep 83 = .ok (.ireturn, 1) := by decide +kernel
theorem dX3_firstStep_84 : decode cX3_firstStep 84 = .ok (.iinc 4 1, 3) := by decide +kernel
theorem dX3_firstStep_87 : decode cX3_firstStep 87 = .ok (.goto (-60), 3) := by decide +kernel
theorem dX3_firstStep_90 : decode cX3_firstStep 90 = .ok (.bipush (-4), 2) := by decide +kernel
theorem dX3_firstStep_92 : decode cX3_firstStep 92 = .ok (.ireturn, 1) := by decide +kernel
theorem dX3_townBehind_0 : decode cX3_townBehind 0 = .ok (.iload_n 1, 1) := by decide +kernel
theorem dX3_townBehind_1 : decode cX3_townBehind 1 = .ok (.iconst 1, 1) := by decide +kernel
theorem dX3_townBehind_2 : decode cX3_townBehind 2 = .ok (.iadd, 1) := by decide +kernel
theorem dX3_townBehind_3 : decode cX3_townBehind 3 = .ok (.aload_n 0, 1) := by decide +kernel
theorem dX3_townBehind_4 : decode cX3_townBehind 4 = .ok (.getfield 9, 3) := by decide +kernel
theorem dX3_townBehind_7 : decode cX3_townBehind 7 = .ok (.if_icmp .ge 9, 3) := by decide +kernel
theorem dX3_townBehind_10 : decode cX3_townBehind 10 = .ok (.iload_n 1, 1) := by decide +kernel
theorem dX3_townBehind_11 : decode cX3_townBehind 11 = .ok (.iconst 1, 1) := by decide +kernel
theorem dX3_townBehind_12 : decode cX3_townBehind 12 = .ok (.iadd, 1) := by decide +kernel
theorem dX3_townBehind_13 : decode cX3_townBehind 13 = .ok (.goto 4, 3) := by decide +kernel
theorem dX3_townBehind_16 : decode cX3_townBehind 16 = .ok (.iconst 0, 1) := by decide +kernel
theorem dX3_townBehind_17 : decode cX3_townBehind 17 = .ok (.ireturn, 1) := by decide +kernel
theorem dX3_turned_0 : decode cX3_turned 0 = .ok (.iload_n 2, 1) := by decide +kernel
theorem dX3_turned_1 : decode cX3_turned 1 = .ok (.istore_n 3, 1) := by decide +kernel
theorem dX3_turned_2 : decode cX3_turned 2 = .ok (.iconst 0, 1) := by decide +kernel
theorem dX3_turned_3 : decode cX3_turned 3 = .ok (.istore 4, 2) := by decide +kernel
theorem dX3_turned_5 : decode cX3_turned 5 = .ok (.iload 4, 2) := by decide +kernel
theorem dX3_turned_7 : decode cX3_turned 7 = .ok (.aload_n 0, 1) := by decide +kernel
theorem dX3_turned_8 : decode cX3_turned 8 = .ok (.getfield 9, 3) := by decide +kernel
theorem dX3_turned_11 : decode cX3_turned 11 = .ok (.if_icmp .ge 41, 3) := by decide +kernel
theorem dX3_turned_14 : decode cX3_turned 14 = .ok (.iload_n 3, 1) := by decide +kernel
theorem dX3_turned_15 : decode cX3_turned 15 = .ok (.iconst 1, 1) := by decide +kernel
theorem dX3_turned_16 : decode cX3_turned 16 = .ok (.iadd, 1) := by decide +kernel
theorem dX3_turned_17 : decode cX3_turned 17 = .ok (.aload_n 0, 1) := by decide +kernel
theorem dX3_turned_18 : decode cX3_turned 18 = .ok (.getfield 9, 3) := by decide +kernel
theorem dX3_turned_21 : decode cX3_turned 21 = .ok (.if_icmp .ge 9, 3) := by decide +kernel
theorem dX3_turned_24 : decode cX3_turned 24 = .ok (.iload_n 3, 1) := by decide +kernel
theorem dX3_turned_25 : decode cX3_turned 25 = .ok (.iconst 1, 1) := by decide +kernel
theorem dX3_turned_26 : decode cX3_turned 26 = .ok (.iadd, 1) := by decide +kernel
theorem dX3_turned_27 : decode cX3_turned 27 = .ok (.goto 4, 3) := by decide +kernel
theorem dX3_turned_30 : decode cX3_turned 30 = .ok (.iconst 0, 1) := by decide +kernel
theorem dX3_turned_31 : decode cX3_turned 31 = .ok (.istore_n 3, 1) := by decide +kernel
theorem dX3_turned_32 : decode cX3_turned 32 = .ok (.aload_n 0, 1) := by decide +kernel
theorem dX3_turned_33 : decode cX3_turned 33 = .ok (.getfield 20, 3) := by decide +kernel
theorem dX3_turned_36 : decode cX3_turned 36 = .ok (.iload_n 1, 1) := by decide +kernel
theorem dX3_turned_37 : decode cX3_turned 37 = .ok (.iload_n 3, 1) := by decide +kernel
theorem dX3_turned_38 : decode cX3_turned 38 = .ok (.invokevirtual 54, 3) := by decide +kernel
theorem dX3_turned_41 : decode cX3_turned 41 = .ok (.ifCond .le 5, 3) := by decide +kernel
theorem dX3_turned_44 : decode cX3_turned 44 = .ok (.iload_n 3, 1) := by decide +kernel
theorem dX3_turned_45 : decode cX3_turned 45 = .ok (.ireturn, 1) := by decide +kernel
theorem dX3_turned_46 : decode cX3_turned 46 = .ok (.iinc 4 1, 3) := by decide +kernel
theorem dX3_turned_49 : decode cX3_turned 49 = .ok (.goto (-44), 3) := by decide +kernel
theorem dX3_turned_52 : decode cX3_turned 52 = .ok (.bipush (-4), 2) := by decide +kernel
theorem dX3_turned_54 : decode cX3_turned 54 = .ok (.ireturn, 1) := by decide +kernel
theorem dX3_nearest_0 : decode cX3_nearest 0 = .ok (.bipush (-4), 2) := by decide +kernel
theorem dX3_nearest_2 : decode cX3_nearest 2 = .ok (.istore_n 2, 1) := by decide +kernel
theorem dX3_nearest_3 : decode cX3_nearest 3 = .ok (.iconst 0, 1) := by decide +kernel
theorem dX3_nearest_4 : decode cX3_nearest 4 = .ok (.istore_n 3, 1) := by decide +kernel
theorem dX3_nearest_5 : decode cX3_nearest 5 = .ok (.iconst 0, 1) := by decide +kernel
theorem dX3_nearest_6 : decode cX3_nearest 6 = .ok (.istore 4, 2) := by decide +kernel
theorem dX3_nearest_8 : decode cX3_nearest 8 = .ok (.iload 4, 2) := by decide +kernel
theorem dX3_nearest_10 : decode cX3_nearest 10 = .ok (.aload_n 0, 1) := by decide +kernel
theorem dX3_nearest_11 : decode cX3_nearest 11 = .ok (.getfield 9, 3) := by decide +kernel
theorem dX3_nearest_14 : decode cX3_nearest 14 = .ok (.if_icmp .ge 44, 3) := by decide +kernel
theorem dX3_nearest_17 : decode cX3_nearest 17 = .ok (.aload_n 0, 1) := by decide +kernel
theorem dX3_nearest_18 : decode cX3_nearest 18 = .ok (.getfield 20, 3) := by decide +kernel
theorem dX3_nearest_21 : decode cX3_nearest 21 = .ok (.iload_n 1, 1) := by decide +kernel
theorem dX3_nearest_22 : decode cX3_nearest 22 = .ok (.iload 4, 2) := by decide +kernel
theorem dX3_nearest_24 : decode cX3_nearest 24 = .ok (.invokevirtual 54, 3) := by decide +kernel
theorem dX3_nearest_27 : decode cX3_nearest 27 = .ok (.istore 5, 2) := by decide +kernel
theorem dX3_nearest_29 : decode cX3_nearest 29 = .ok (.iload 5, 2) := by decide +kernel
theorem dX3_nearest_31 : decode cX3_nearest 31 = .ok (.ifCond .le 21, 3) := by decide +kernel
theorem dX3_nearest_34 : decode cX3_nearest 34 = .ok (.iload_n 2, 1) := by decide +kernel
theorem dX3_nearest_35 : decode cX3_nearest 35 = .ok (.bipush (-4), 2) := by decide +kernel
theorem dX3_nearest_37 : decode cX3_nearest 37 = .ok (.if_icmp .eq 9, 3) := by decide +kernel
theorem dX3_nearest_40 : decode cX3_nearest 40 = .ok (.iload 5, 2) := by decide +kernel
theorem dX3_nearest_42 : decode cX3_nearest 42 = .ok (.iload_n 3, 1) := by decide +kernel
theorem dX3_nearest_43 : decode cX3_nearest 43 = .ok (.if_icmp .ge 9, 3) := by decide +kernel
theorem dX3_nearest_46 : decode cX3_nearest 46 = .ok (.iload 4, 2) := by decide +kernel
theorem dX3_nearest_48 : decode cX3_nearest 48 = .ok (.istore_n 2, 1) := by decide +kernel
theorem dX3_nearest_49 : decode cX3_nearest 49 = .ok (.iload 5, 2) := by decide +kernel
theorem dX3_nearest_51 : decode cX3_nearest 51 = .ok (.istore_n 3, 1) := by decide +kernel
theorem dX3_nearest_52 : decode cX3_nearest 52 = .ok (.iinc 4 1, 3) := by decide +kernel
theorem dX3_nearest_55 : decode cX3_nearest 55 = .ok (.goto (-47), 3) := by decide +kernel
theorem dX3_nearest_58 : decode cX3_nearest 58 = .ok (.iload_n 2, 1) := by decide +kernel
theorem dX3_nearest_59 : decode cX3_nearest 59 = .ok (.ireturn, 1) := by decide +kernel
theorem dX3_howMany_0 : decode cX3_howMany 0 = .ok (.iconst 0, 1) := by decide +kernel
theorem dX3_howMany_1 : decode cX3_howMany 1 = .ok (.istore_n 1, 1) := by decide +kernel
theorem dX3_howMany_2 : decode cX3_howMany 2 = .ok (.iconst 0, 1) := by decide +kernel
theorem dX3_howMany_3 : decode cX3_howMany 3 = .ok (.istore_n 2, 1) := by decide +kernel
theorem dX3_howMany_4 : decode cX3_howMany 4 = .ok (.iload_n 2, 1) := by decide +kernel
theorem dX3_howMany_5 : decode cX3_howMany 5 = .ok (.aload_n 0, 1) := by decide +kernel
theorem dX3_howMany_6 : decode cX3_howMany 6 = .ok (.getfield 9, 3) := by decide +kernel
theorem dX3_howMany_9 : decode cX3_howMany 9 = .ok (.if_icmp .ge 42, 3) := by decide +kernel
theorem dX3_howMany_12 : decode cX3_howMany 12 = .ok (.iload_n 2, 1) := by decide +kernel
theorem dX3_howMany_13 : decode cX3_howMany 13 = .ok (.iconst 1, 1) := by decide +kernel
theorem dX3_howMany_14 : decode cX3_howMany 14 = .ok (.iadd, 1) := by decide +kernel
theorem dX3_howMany_15 : decode cX3_howMany 15 = .ok (.istore_n 3, 1) := by decide +kernel
theorem dX3_howMany_16 : decode cX3_howMany 16 = .ok (.iload_n 3, 1) := by decide +kernel
theorem dX3_howMany_17 : decode cX3_howMany 17 = .ok (.aload_n 0, 1) := by decide +kernel
theorem dX3_howMany_18 : decode cX3_howMany 18 = .ok (.getfield 9, 3) := by decide +kernel
theorem dX3_howMany_21 : decode cX3_howMany 21 = .ok (.if_icmp .ge 24, 3) := by decide +kernel
theorem dX3_howMany_24 : decode cX3_howMany 24 = .ok (.aload_n 0, 1) := by decide +kernel
theorem dX3_howMany_25 : decode cX3_howMany 25 = .ok (.getfield 20, 3) := by decide +kernel
theorem dX3_howMany_28 : decode cX3_howMany 28 = .ok (.iload_n 2, 1) := by decide +kernel
theorem dX3_howMany_29 : decode cX3_howMany 29 = .ok (.iload_n 3, 1) := by decide +kernel
theorem dX3_howMany_30 : decode cX3_howMany 30 = .ok (.invokevirtual 54, 3) := by decide +kernel
theorem dX3_howMany_33 : decode cX3_howMany 33 = .ok (.ifCond .le 6, 3) := by decide +kernel
theorem dX3_howMany_36 : decode cX3_howMany 36 = .ok (.iinc 1 1, 3) := by decide +kernel
theorem dX3_howMany_39 : decode cX3_howMany 39 = .ok (.iinc 3 1, 3) := by decide +kernel
theorem dX3_howMany_42 : decode cX3_howMany 42 = .ok (.goto (-26), 3) := by decide +kernel
theorem dX3_howMany_45 : decode cX3_howMany 45 = .ok (.iinc 2 1, 3) := by decide +kernel
theorem dX3_howMany_48 : decode cX3_howMany 48 = .ok (.goto (-44), 3) := by decide +kernel
theorem dX3_howMany_51 : decode cX3_howMany 51 = .ok (.iload_n 1, 1) := by decide +kernel
theorem dX3_howMany_52 : decode cX3_howMany 52 = .ok (.ireturn, 1) := by decide +kernel
theorem dX3_milesOfAll_0 : decode cX3_milesOfAll 0 = .ok (.iconst 0, 1) := by decide +kernel
theorem dX3_milesOfAll_1 : decode cX3_milesOfAll 1 = .ok (.istore_n 1, 1) := by decide +kernel
theorem dX3_milesOfAll_2 : decode cX3_milesOfAll 2 = .ok (.iconst 0, 1) := by decide +kernel
theorem dX3_milesOfAll_3 : decode cX3_milesOfAll 3 = .ok (.istore_n 2, 1) := by decide +kernel
theorem dX3_milesOfAll_4 : decode cX3_milesOfAll 4 = .ok (.iload_n 2, 1) := by decide +kernel
theorem dX3_milesOfAll_5 : decode cX3_milesOfAll 5 = .ok (.aload_n 0, 1) := by decide +kernel
theorem dX3_milesOfAll_6 : decode cX3_milesOfAll 6 = .ok (.getfield 9, 3) := by decide +kernel
theorem dX3_milesOfAll_9 : decode cX3_milesOfAll 9 = .ok (.if_icmp .ge 39, 3) := by decide +kernel
theorem dX3_milesOfAll_12 : decode cX3_milesOfAll 12 = .ok (.iload_n 2, 1) := by decide +kernel
theorem dX3_milesOfAll_13 : decode cX3_milesOfAll 13 = .ok (.iconst 1, 1) := by decide +kernel
theorem dX3_milesOfAll_14 : decode cX3_milesOfAll 14 = .ok (.iadd, 1) := by decide +kernel
theorem dX3_milesOfAll_15 : decode cX3_milesOfAll 15 = .ok (.istore_n 3, 1) := by decide +kernel
theorem dX3_milesOfAll_16 : decode cX3_milesOfAll 16 = .ok (.iload_n 3, 1) := by decide +kernel
theorem dX3_milesOfAll_17 : decode cX3_milesOfAll 17 = .ok (.aload_n 0, 1) := by decide +kernel
theorem dX3_milesOfAll_18 : decode cX3_milesOfAll 18 = .ok (.getfield 9, 3) := by decide +kernel
theorem dX3_milesOfAll_21 : decode cX3_milesOfAll 21 = .ok (.if_icmp .ge 21, 3) := by decide +kernel
theorem dX3_milesOfAll_24 : decode cX3_milesOfAll 24 = .ok (.iload_n 1, 1) := by decide +kernel
theorem dX3_milesOfAll_25 : decode cX3_milesOfAll 25 = .ok (.aload_n 0, 1) := by decide +kernel
theorem dX3_milesOfAll_26 : decode cX3_milesOfAll 26 = .ok (.getfield 20, 3) := by decide +kernel
theorem dX3_milesOfAll_29 : decode cX3_milesOfAll 29 = .ok (.iload_n 2, 1) := by decide +kernel
theorem dX3_milesOfAll_30 : decode cX3_milesOfAll 30 = .ok (.iload_n 3, 1) := by decide +kernel
theorem dX3_milesOfAll_31 : decode cX3_milesOfAll 31 = .ok (.invokevirtual 54, 3) := by decide +kernel
theorem dX3_milesOfAll_34 : decode cX3_milesOfAll 34 = .ok (.iadd, 1) := by decide +kernel
theorem dX3_milesOfAll_35 : decode cX3_milesOfAll 35 = .ok (.istore_n 1, 1) := by decide +kernel
theorem dX3_milesOfAll_36 : decode cX3_milesOfAll 36 = .ok (.iinc 3 1, 3) := by decide +kernel
theorem dX3_milesOfAll_39 : decode cX3_milesOfAll 39 = .ok (.goto (-23), 3) := by decide +kernel
theorem dX3_milesOfAll_42 : decode cX3_milesOfAll 42 = .ok (.iinc 2 1, 3) := by decide +kernel
theorem dX3_milesOfAll_45 : decode cX3_milesOfAll 45 = .ok (.goto (-41), 3) := by decide +kernel
theorem dX3_milesOfAll_48 : decode cX3_milesOfAll 48 = .ok (.iload_n 1, 1) := by decide +kernel
theorem dX3_milesOfAll_49 : decode cX3_milesOfAll 49 = .ok (.ireturn, 1) := by decide +kernel
theorem dX4_init_0 : decode cX4_init 0 = .ok (.aload_n 0, 1) := by decide +kernel
theorem dX4_init_1 : decode cX4_init 1 = .ok (.invokespecial 3, 3) := by decide +kernel
theorem dX4_init_4 : decode cX4_init 4 = .ok (.aload_n 0, 1) := by decide +kernel
theorem dX4_init_5 : decode cX4_init 5 = .ok (.iconst 1, 1) := by decide +kernel
theorem dX4_init_6 : decode cX4_init 6 = .ok (.iload_n 1, 1) := by decide +kernel
theorem dX4_init_7 : decode cX4_init 7 = .ok (.bipush 8, 2) := by decide +kernel
theorem dX4_init_9 : decode cX4_init 9 = .ok (.invokestatic 9, 3) := by decide +kernel
theorem dX4_init_12 : decode cX4_init 12 = .ok (.invokestatic 15, 3) := by decide +kernel
theorem dX4_init_15 : decode cX4_init 15 = .ok (.anewarray 18, 3) := by decide +kernel
theorem dX4_init_18 : decode cX4_init 18 = .ok (.putfield 20, 3) := by decide +kernel
theorem dX4_init_21 : decode cX4_init 21 = .ok (.iconst 0, 1) := by decide +kernel
theorem dX4_init_22 : decode cX4_init 22 = .ok (.istore_n 2, 1) := by decide +kernel
theorem dX4_init_23 : decode cX4_init 23 = .ok (.iload_n 2, 1) := by decide +kernel
theorem dX4_init_24 : decode cX4_init 24 = .ok (.aload_n 0, 1) := by decide +kernel
theorem dX4_init_25 : decode cX4_init 25 = .ok (.getfield 20, 3) := by decide +kernel
theorem dX4_init_28 : decode cX4_init 28 = .ok (.arraylength, 1) := by decide +kernel
theorem dX4_init_29 : decode cX4_init 29 = .ok (.if_icmp .ge 22, 3) := by decide +kernel
theorem dX4_init_32 : decode cX4_init 32 = .ok (.aload_n 0, 1) := by decide +kernel
theorem dX4_init_33 : decode cX4_init 33 = .ok (.getfield 20, 3) := by decide +kernel
theorem dX4_init_36 : decode cX4_init 36 = .ok (.iload_n 2, 1) := by decide +kernel
theorem dX4_init_37 : decode cX4_init 37 = .ok (.new 18, 3) := by decide +kernel
theorem dX4_init_40 : decode cX4_init 40 = .ok (.dup, 1) := by decide +kernel
theorem dX4_init_41 : decode cX4_init 41 = .ok (.invokespecial 26, 3) := by decide +kernel
theorem dX4_init_44 : decode cX4_init 44 = .ok (.aastore, 1) := by decide +kernel
theorem dX4_init_45 : decode cX4_init 45 = .ok (.iinc 2 1, 3) := by decide +kernel
theorem dX4_init_48 : decode cX4_init 48 = .ok (.goto (-25), 3) := by decide +kernel
theorem dX4_init_51 : decode cX4_init 51 = .ok (.return_, 1) := by decide +kernel
theorem dX4_held_0 : decode cX4_held 0 = .ok (.aload_n 0, 1) := by decide +kernel
theorem dX4_held_1 : decode cX4_held 1 = .ok (.getfield 27, 3) := by decide +kernel
theorem dX4_held_4 : decode cX4_held 4 = .ok (.ireturn, 1) := by decide +kernel
theorem dX4_empty_0 : decode cX4_empty 0 = .ok (.aload_n 0, 1) := by decide +kernel
theorem dX4_empty_1 : decode cX4_empty 1 = .ok (.iconst 0, 1) := by decide +kernel
theorem dX4_empty_2 : decode cX4_empty 2 = .ok (.putfield 27, 3) := by decide +kernel
theorem dX4_empty_5 : decode cX4_empty 5 = .ok (.return_, 1) := by decide +kernel
theorem dX4_setAside_0 : decode cX4_setAside 0 = .ok (.aload_n 0, 1) := by decide +kernel
theorem dX4_setAside_1 : decode cX4_setAside 1 = .ok (.getfield 31, 3) := by decide +kernel
theorem dX4_setAside_4 : decode cX4_setAside 4 = .ok (.ifCond .lt 27, 3) := by decide +kernel
theorem dX4_setAside_7 : decode cX4_setAside 7 = .ok (.aload_n 0, 1) := by decide +kernel
theorem dX4_setAside_8 : decode cX4_setAside 8 = .ok (.getfield 31, 3) := by decide +kernel
theorem dX4_setAside_11 : decode cX4_setAside 11 = .ok (.aload_n 0, 1) := by decide +kernel
theorem dX4_setAside_12 : decode cX4_setAside 12 = .ok (.getfield 20, 3) := by decide +kernel
theorem dX4_setAside_15 : decode cX4_setAside 15 = .ok (.arraylength, 1) := by decide +kernel
theorem dX4_setAside_16 : decode cX4_setAside 16 = .ok (.if_icmp .ge 15, 3) := by decide +kernel
theorem dX4_setAside_19 : decode cX4_setAside 19 = .ok (.aload_n 0, 1) := by decide +kernel
theorem dX4_setAside_20 : decode cX4_setAside 20 = .ok (.getfield 20, 3) := by decide +kernel
theorem dX4_setAside_23 : decode cX4_setAside 23 = .ok (.aload_n 0, 1) := by decide +kernel
theorem dX4_setAside_24 : decode cX4_setAside 24 = .ok (.getfield 31, 3) := by decide +kernel
theorem dX4_setAside_27 : decode cX4_setAside 27 = .ok (.aaload, 1) := by decide +kernel
theorem dX4_setAside_28 : decode cX4_setAside 28 = .ok (.goto 4, 3) := by decide +kernel
theorem dX4_setAside_31 : decode cX4_setAside 31 = .ok (.aconst_null, 1) := by decide +kernel
theorem dX4_setAside_32 : decode cX4_setAside 32 = .ok (.astore_n 2, 1) := by decide +kernel
theorem dX4_setAside_33 : decode cX4_setAside 33 = .ok (.aload_n 2, 1) := by decide +kernel
theorem dX4_setAside_34 : decode cX4_setAside 34 = .ok (.ifnull 54, 3) := by decide +kernel
theorem dX4_setAside_37 : decode cX4_setAside 37 = .ok (.aload_n 2, 1) := by decide +kernel
theorem dX4_setAside_38 : decode cX4_setAside 38 = .ok (.aload_n 1, 1) := by decide +kernel
theorem dX4_setAside_39 : decode cX4_setAside 39 = .ok (.invokevirtual 34, 3) := by decide +kernel
theorem dX4_setAside_42 : decode cX4_setAside 42 = .ok (.aload_n 0, 1) := by decide +kernel
theorem dX4_setAside_43 : decode cX4_setAside 43 = .ok (.aload_n 0, 1) := by decide +kernel
theorem dX4_setAside_44 : decode cX4_setAside 44 = .ok (.getfield 31, 3) := by decide +kernel
theorem dX4_setAside_47 : decode cX4_setAside 47 = .ok (.iconst 1, 1) := by decide +kernel
theorem dX4_setAside_48 : decode cX4_setAside 48 = .ok (.iadd, 1) := by decide +kernel
theorem dX4_setAside_49 : decode cX4_setAside 49 = .ok (.aload_n 0, 1) := by decide +kernel
theorem dX4_setAside_50 : decode cX4_setAside 50 = .ok (.getfield 20, 3) := by decide +kernel
theorem dX4_setAside_53 : decode cX4_setAside 53 = .ok (.arraylength, 1) := by decide +kernel
theorem dX4_setAside_54 : decode cX4_setAside 54 = .ok (.if_icmp .ge 12, 3) := by decide +kernel
theorem dX4_setAside_57 : decode cX4_setAside 57 = .ok (.aload_n 0, 1) := by decide +kernel
theorem dX4_setAside_58 : decode cX4_setAside 58 = .ok (.getfield 31, 3) := by decide +kernel
theorem dX4_setAside_61 : decode cX4_setAside 61 = .ok (.iconst 1, 1) := by decide +kernel
theorem dX4_setAside_62 : decode cX4_setAside 62 = .ok (.iadd, 1) := by decide +kernel
theorem dX4_setAside_63 : decode cX4_setAside 63 = .ok (.goto 4, 3) := by decide +kernel
theorem dX4_setAside_66 : decode cX4_setAside 66 = .ok (.iconst 0, 1) := by decide +kernel
theorem dX4_setAside_67 : decode cX4_setAside 67 = .ok (.putfield 31, 3) := by decide +kernel
theorem dX4_setAside_70 : decode cX4_setAside 70 = .ok (.aload_n 0, 1) := by decide +kernel
theorem dX4_setAside_71 : decode cX4_setAside 71 = .ok (.aload_n 0, 1) := by decide +kernel
theorem dX4_setAside_72 : decode cX4_setAside 72 = .ok (.getfield 27, 3) := by decide +kernel
theorem dX4_setAside_75 : decode cX4_setAside 75 = .ok (.iconst 1, 1) := by decide +kernel
theorem dX4_setAside_76 : decode cX4_setAside 76 = .ok (.iadd, 1) := by decide +kernel
theorem dX4_setAside_77 : decode cX4_setAside 77 = .ok (.aload_n 0, 1) := by decide +kernel
theorem dX4_setAside_78 : decode cX4_setAside 78 = .ok (.getfield 20, 3) := by decide +kernel
theorem dX4_setAside_81 : decode cX4_setAside 81 = .ok (.arraylength, 1) := by decide +kernel
theorem dX4_setAside_82 : decode cX4_setAside 82 = .ok (.invokestatic 9, 3) := by decide +kernel
theorem dX4_setAside_85 : decode cX4_setAside 85 = .ok (.putfield 27, 3) := by decide +kernel
theorem dX4_setAside_88 : decode cX4_setAside 88 = .ok (.return_, 1) := by decide +kernel
theorem dX4_giveBack_0 : decode cX4_giveBack 0 = .ok (.aload_n 0, 1) := by decide +kernel
theorem dX4_giveBack_1 : decode cX4_giveBack 1 = .ok (.getfield 31, 3) := by decide +kernel
theorem dX4_giveBack_4 : decode cX4_giveBack 4 = .ok (.ifCond .le 12, 3) := by decide +kernel
theorem dX4_giveBack_7 : decode cX4_giveBack 7 = .ok (.aload_n 0, 1) := by decide +kernel
theorem dX4_giveBack_8 : decode cX4_giveBack 8 = .ok (.getfield 31, 3) := by decide +kernel
theorem dX4_giveBack_11 : decode cX4_giveBack 11 = .ok (.iconst 1, 1) := by decide +kernel
theorem dX4_giveBack_12 : decode cX4_giveBack 12 = .ok (.isub, 1) := by decide +kernel
theorem dX4_giveBack_13 : decode cX4_giveBack 13 = .ok (.goto 10, 3) := by decide +kernel
theorem dX4_giveBack_16 : decode cX4_giveBack 16 = .ok (.aload_n 0, 1) := by decide +kernel
theorem dX4_giveBack_17 : decode cX4_giveBack 17 = .ok (.getfield 20, 3) := by decide +kernel
theorem dX4_giveBack_20 : decode cX4_giveBack 20 = .ok (.arraylength, 1) := by decide +kernel
theorem dX4_giveBack_21 : decode cX4_giveBack 21 = .ok (.iconst 1, 1) := by decide +kernel
theorem dX4_giveBack_22 : decode cX4_giveBack 22 = .ok (.isub, 1) := by decide +kernel
theorem dX4_giveBack_23 : decode cX4_giveBack 23 = .ok (.istore_n 2, 1) := by decide +kernel
theorem dX4_giveBack_24 : decode cX4_giveBack 24 = .ok (.aload_n 0, 1) := by decide +kernel
theorem dX4_giveBack_25 : decode cX4_giveBack 25 = .ok (.getfield 27, 3) := by decide +kernel
theorem dX4_giveBack_28 : decode cX4_giveBack 28 = .ok (.ifCond .le 25, 3) := by decide +kernel
theorem dX4_giveBack_31 : decode cX4_giveBack 31 = .ok (.iload_n 2, 1) := by decide +kernel
theorem dX4_giveBack_32 : decode cX4_giveBack 32 = .ok (.ifCond .lt 21, 3) := by decide +kernel
theorem dX4_giveBack_35 : decode cX4_giveBack 35 = .ok (.iload_n 2, 1) := by decide +kernel
theorem dX4_giveBack_36 : decode cX4_giveBack 36 = .ok (.aload_n 0, 1) := by decide +kernel
theorem dX4_giveBack_37 : decode cX4_giveBack 37 = .ok (.getfield 20, 3) := by decide +kernel
theorem dX4_giveBack_40 : decode cX4_giveBack 40 = .ok (.arraylength, 1) := by decide +kernel
theorem dX4_giveBack_41 : decode cX4_giveBack 41 = .ok (.if_icmp .ge 12, 3) := by decide +kernel
theorem dX4_giveBack_44 : decode cX4_giveBack 44 = .ok (.aload_n 0, 1) := by decide +kernel
theorem dX4_giveBack_45 : decode cX4_giveBack 45 = .ok (.getfield 20, 3) := by decide +kernel
theorem dX4_giveBack_48 : decode cX4_giveBack 48 = .ok (.iload_n 2, 1) := by decide +kernel
theorem dX4_giveBack_49 : decode cX4_giveBack 49 = .ok (.aaload, 1) := by decide +kernel
theorem dX4_giveBack_50 : decode cX4_giveBack 50 = .ok (.goto 4, 3) := by decide +kernel
theorem dX4_giveBack_53 : decode cX4_giveBack 53 = .ok (.aconst_null, 1) := by decide +kernel
theorem dX4_giveBack_54 : decode cX4_giveBack 54 = .ok (.astore_n 3, 1) := by decide +kernel
theorem dX4_giveBack_55 : decode cX4_giveBack 55 = .ok (.aload_n 3, 1) := by decide +kernel
theorem dX4_giveBack_56 : decode cX4_giveBack 56 = .ok (.ifnonnull 5, 3) := by decide +kernel
theorem dX4_giveBack_59 : decode cX4_giveBack 59 = .ok (.iconst 0, 1) := by decide +kernel
theorem dX4_giveBack_60 : decode cX4_giveBack 60 = .ok (.ireturn, 1) := by decide +kernel
theorem dX4_giveBack_61 : decode cX4_giveBack 61 = .ok (.aload_n 1, 1) := by decide +kernel
theorem dX4_giveBack_62 : decode cX4_giveBack 62 = .ok (.aload_n 3, 1) := by decide +kernel
theorem dX4_giveBack_63 : decode cX4_giveBack 63 = .ok (.invokevirtual 34, 3) := by decide +kernel
theorem dX4_giveBack_66 : decode cX4_giveBack 66 = .ok (.aload_n 0, 1) := by decide +kernel
theorem dX4_giveBack_67 : decode cX4_giveBack 67 = .ok (.iload_n 2, 1) := by decide +kernel
theorem dX4_giveBack_68 : decode cX4_giveBack 68 = .ok (.putfield 31, 3) := by decide +kernel
theorem dX4_giveBack_71 : decode cX4_giveBack 71 = .ok (.aload_n 0, 1) := by decide +kernel
theorem dX4_giveBack_72 : decode cX4_giveBack 72 = .ok (.dup, 1) := by decide +kernel
theorem dX4_giveBack_73 : decode cX4_giveBack 73 = .ok (.getfield 27, 3) := by decide +kernel
theorem dX4_giveBack_76 : decode cX4_giveBack 76 = .ok (.iconst 1, 1) := by decide +kernel
theorem dX4_giveBack_77 : decode cX4_giveBack 77 = .ok (.isub, 1) := by decide +kernel
theorem dX4_giveBack_78 : decode cX4_giveBack 78 = .ok (.putfield 27, 3) := by decide +kernel
theorem dX4_giveBack_81 : decode cX4_giveBack 81 = .ok (.iconst 1, 1) := by decide +kernel
theorem dX4_giveBack_82 : decode cX4_giveBack 82 = .ok (.ireturn, 1) := by decide +kernel
theorem dX5_init_0 : decode cX5_init 0 = .ok (.aload_n 0, 1) := by decide +kernel
theorem dX5_init_1 : decode cX5_init 1 = .ok (.invokespecial 3, 3) := by decide +kernel
theorem dX5_init_4 : decode cX5_init 4 = .ok (.aload_n 0, 1) := by decide +kernel
theorem dX5_init_5 : decode cX5_init 5 = .ok (.new 9, 3) := by decide +kernel
theorem dX5_init_8 : decode cX5_init 8 = .ok (.dup, 1) := by decide +kernel
theorem dX5_init_9 : decode cX5_init 9 = .ok (.invokespecial 11, 3) := by decide +kernel
theorem dX5_init_12 : decode cX5_init 12 = .ok (.putfield 12, 3) := by decide +kernel
theorem dX5_init_15 : decode cX5_init 15 = .ok (.aload_n 0, 1) := by decide +kernel
theorem dX5_init_16 : decode cX5_init 16 = .ok (.new 18, 3) := by decide +kernel
theorem dX5_init_19 : decode cX5_init 19 = .ok (.dup, 1) := by decide +kernel
theorem dX5_init_20 : decode cX5_init 20 = .ok (.bipush 8, 2) := by decide +kernel
theorem dX5_init_22 : decode cX5_init 22 = .ok (.iconst 3, 1) := by decide +kernel
theorem dX5_init_23 : decode cX5_init 23 = .ok (.invokespecial 20, 3) := by decide +kernel
theorem dX5_init_26 : decode cX5_init 26 = .ok (.putfield 23, 3) := by decide +kernel
theorem dX5_init_29 : decode cX5_init 29 = .ok (.aload_n 0, 1) := by decide +kernel
theorem dX5_init_30 : decode cX5_init 30 = .ok (.new 18, 3) := by decide +kernel
theorem dX5_init_33 : decode cX5_init 33 = .ok (.dup, 1) := by decide +kernel
theorem dX5_init_34 : decode cX5_init 34 = .ok (.bipush 8, 2) := by decide +kernel
theorem dX5_init_36 : decode cX5_init 36 = .ok (.bipush 8, 2) := by decide +kernel
theorem dX5_init_38 : decode cX5_init 38 = .ok (.invokespecial 20, 3) := by decide +kernel
theorem dX5_init_41 : decode cX5_init 41 = .ok (.putfield 27, 3) := by decide +kernel
theorem dX5_init_44 : decode cX5_init 44 = .ok (.aload_n 0, 1) := by decide +kernel
theorem dX5_init_45 : decode cX5_init 45 = .ok (.new 18, 3) := by decide +kernel
theorem dX5_init_48 : decode cX5_init 48 = .ok (.dup, 1) := by decide +kernel
theorem dX5_init_49 : decode cX5_init 49 = .ok (.bipush 8, 2) := by decide +kernel
theorem dX5_init_51 : decode cX5_init 51 = .ok (.bipush 8, 2) := by decide +kernel
theorem dX5_init_53 : decode cX5_init 53 = .ok (.invokespecial 20, 3) := by decide +kernel
theorem dX5_init_56 : decode cX5_init 56 = .ok (.putfield 30, 3) := by decide +kernel
theorem dX5_init_59 : decode cX5_init 59 = .ok (.aload_n 0, 1) := by decide +kernel
theorem dX5_init_60 : decode cX5_init 60 = .ok (.new 18, 3) := by decide +kernel
theorem dX5_init_63 : decode cX5_init 63 = .ok (.dup, 1) := by decide +kernel
theorem dX5_init_64 : decode cX5_init 64 = .ok (.iconst 5, 1) := by decide +kernel
theorem dX5_init_65 : decode cX5_init 65 = .ok (.iconst 2, 1) := by decide +kernel
theorem dX5_init_66 : decode cX5_init 66 = .ok (.invokespecial 20, 3) := by decide +kernel
theorem dX5_init_69 : decode cX5_init 69 = .ok (.putfield 33, 3) := by decide +kernel
theorem dX5_init_72 : decode cX5_init 72 = .ok (.return_, 1) := by decide +kernel
theorem dX5_become_0 : decode cX5_become 0 = .ok (.aload_n 0, 1) := by decide +kernel
theorem dX5_become_1 : decode cX5_become 1 = .ok (.getfield 12, 3) := by decide +kernel
theorem dX5_become_4 : decode cX5_become 4 = .ok (.aload_n 1, 1) := by decide +kernel
theorem dX5_become_5 : decode cX5_become 5 = .ok (.getfield 12, 3) := by decide +kernel
theorem dX5_become_8 : decode cX5_become 8 = .ok (.invokevirtual 36, 3) := by decide +kernel
theorem dX5_become_11 : decode cX5_become 11 = .ok (.aload_n 0, 1) := by decide +kernel
theorem dX5_become_12 : decode cX5_become 12 = .ok (.getfield 23, 3) := by decide +kernel
theorem dX5_become_15 : decode cX5_become 15 = .ok (.aload_n 1, 1) := by decide +kernel
theorem dX5_become_16 : decode cX5_become 16 = .ok (.getfield 23, 3) := by decide +kernel
theorem dX5_become_19 : decode cX5_become 19 = .ok (.invokevirtual 40, 3) := by decide +kernel
theorem dX5_become_22 : decode cX5_become 22 = .ok (.aload_n 0, 1) := by decide +kernel
theorem dX5_become_23 : decode cX5_become 23 = .ok (.getfield 27, 3) := by decide +kernel
theorem dX5_become_26 : decode cX5_become 26 = .ok (.aload_n 1, 1) := by decide +kernel
theorem dX5_become_27 : decode cX5_become 27 = .ok (.getfield 27, 3) := by decide +kernel
theorem dX5_become_30 : decode cX5_become 30 = .ok (.invokevirtual 40, 3) := by decide +kernel
theorem dX5_become_33 : decode cX5_become 33 = .ok (.aload_n 0, 1) := by decide +kernel
theorem dX5_become_34 : decode cX5_become 34 = .ok (.getfield 30, 3) := by decide +kernel
theorem dX5_become_37 : decode cX5_become 37 = .ok (.aload_n 1, 1) := by decide +kernel
theorem dX5_become_38 : decode cX5_become 38 = .ok (.getfield 30, 3) := by decide +kernel
theorem dX5_become_41 : decode cX5_become 41 = .ok (.invokevirtual 40, 3) := by decide +kernel
theorem dX5_become_44 : decode cX5_become 44 = .ok (.aload_n 0, 1) := by decide +kernel
theorem dX5_become_45 : decode cX5_become 45 = .ok (.getfield 33, 3) := by decide +kernel
theorem dX5_become_48 : decode cX5_become 48 = .ok (.aload_n 1, 1) := by decide +kernel
theorem dX5_become_49 : decode cX5_become 49 = .ok (.getfield 33, 3) := by decide +kernel
theorem dX5_become_52 : decode cX5_become 52 = .ok (.invokevirtual 40, 3) := by decide +kernel
theorem dX5_become_55 : decode cX5_become 55 = .ok (.aload_n 0, 1) := by decide +kernel
theorem dX5_become_56 : decode cX5_become 56 = .ok (.aload_n 1, 1) := by decide +kernel
theorem dX5_become_57 : decode cX5_become 57 = .ok (.getfield 43, 3) := by decide +kernel
theorem dX5_become_60 : decode cX5_become 60 = .ok (.putfield 43, 3) := by decide +kernel
theorem dX5_become_63 : decode cX5_become 63 = .ok (.aload_n 0, 1) := by decide +kernel
theorem dX5_become_64 : decode cX5_become 64 = .ok (.aload_n 1, 1) := by decide +kernel
theorem dX5_become_65 : decode cX5_become 65 = .ok (.getfield 47, 3) := by decide +kernel
theorem dX5_become_68 : decode cX5_become 68 = .ok (.putfield 47, 3) := by decide +kernel
theorem dX5_become_71 : decode cX5_become 71 = .ok (.aload_n 0, 1) := by decide +kernel
theorem dX5_become_72 : decode cX5_become 72 = .ok (.aload_n 1, 1) := by decide +kernel
theorem dX5_become_73 : decode cX5_become 73 = .ok (.getfield 50, 3) := by decide +kernel
theorem dX5_become_76 : decode cX5_become 76 = .ok (.putfield 50, 3) := by decide +kernel
theorem dX5_become_79 : decode cX5_become 79 = .ok (.aload_n 0, 1) := by decide +kernel
theorem dX5_become_80 : decode cX5_become 80 = .ok (.aload_n 1, 1) := by decide +kernel
theorem dX5_become_81 : decode cX5_become 81 = .ok (.getfield 53, 3) := by decide +kernel
theorem dX5_become_84 : decode cX5_become 84 = .ok (.putfield 53, 3) := by decide +kernel
theorem dX5_become_87 : decode cX5_become 87 = .ok (.aload_n 0, 1) := by decide +kernel
theorem dX5_become_88 : decode cX5_become 88 = .ok (.aload_n 1, 1) := by decide +kernel
theorem dX5_become_89 : decode cX5_become 89 = .ok (.getfield 56, 3) := by decide +kernel
theorem dX5_become_92 : decode cX5_become 92 = .ok (.putfield 56, 3) := by decide +kernel
theorem dX5_become_95 : decode cX5_become 95 = .ok (.return_, 1) := by decide +kernel
theorem dX5_clear_0 : decode cX5_clear 0 = .ok (.aload_n 0, 1) := by decide +kernel
theorem dX5_clear_1 : decode cX5_clear 1 = .ok (.getfield 12, 3) := by decide +kernel
theorem dX5_clear_4 : decode cX5_clear 4 = .ok (.bipush 6, 2) := by decide +kernel
theorem dX5_clear_6 : decode cX5_clear 6 = .ok (.invokevirtual 59, 3) := by decide +kernel
theorem dX5_clear_9 : decode cX5_clear 9 = .ok (.aload_n 0, 1) := by decide +kernel
theorem dX5_clear_10 : decode cX5_clear 10 = .ok (.iconst 0, 1) := by decide +kernel
theorem dX5_clear_11 : decode cX5_clear 11 = .ok (.putfield 43, 3) := by decide +kernel
theorem dX5_clear_14 : decode cX5_clear 14 = .ok (.aload_n 0, 1) := by decide +kernel
theorem dX5_clear_15 : decode cX5_clear 15 = .ok (.iconst 0, 1) := by decide +kernel
theorem dX5_clear_16 : decode cX5_clear 16 = .ok (.putfield 47, 3) := by decide +kernel
theorem dX5_clear_19 : decode cX5_clear 19 = .ok (.aload_n 0, 1) := by decide +kernel
theorem dX5_clear_20 : decode cX5_clear 20 = .ok (.iconst 0, 1) := by decide +kernel
theorem dX5_clear_21 : decode cX5_clear 21 = .ok (.putfield 50, 3) := by decide +kernel
theorem dX5_clear_24 : decode cX5_clear 24 = .ok (.aload_n 0, 1) := by decide +kernel
theorem dX5_clear_25 : decode cX5_clear 25 = .ok (.iconst 0, 1) := by decide +kernel
theorem dX5_clear_26 : decode cX5_clear 26 = .ok (.putfield 53, 3) := by decide +kernel
theorem dX5_clear_29 : decode cX5_clear 29 = .ok (.aload_n 0, 1) := by decide +kernel
theorem dX5_clear_30 : decode cX5_clear 30 = .ok (.iconst 0, 1) := by decide +kernel
theorem dX5_clear_31 : decode cX5_clear 31 = .ok (.putfield 56, 3) := by decide +kernel
theorem dX5_clear_34 : decode cX5_clear 34 = .ok (.return_, 1) := by decide +kernel
theorem dX5_tellTowns_0 : decode cX5_tellTowns 0 = .ok (.iload_n 1, 1) := by decide +kernel
theorem dX5_tellTowns_1 : decode cX5_tellTowns 1 = .ok (.iconst 2, 1) := by decide +kernel
theorem dX5_tellTowns_2 : decode cX5_tellTowns 2 = .ok (.if_icmp .lt 9, 3) := by decide +kernel
theorem dX5_tellTowns_5 : decode cX5_tellTowns 5 = .ok (.iload_n 1, 1) := by decide +kernel
theorem dX5_tellTowns_6 : decode cX5_tellTowns 6 = .ok (.bipush 8, 2) := by decide +kernel
theorem dX5_tellTowns_8 : decode cX5_tellTowns 8 = .ok (.if_icmp .le 5, 3) := by decide +kernel
theorem dX5_tellTowns_11 : decode cX5_tellTowns 11 = .ok (.iconst 0, 1) := by decide +kernel
theorem dX5_tellTowns_12 : decode cX5_tellTowns 12 = .ok (.ireturn, 1) := by decide +kernel
theorem dX5_tellTowns_13 : decode cX5_tellTowns 13 = .ok (.aload_n 0, 1) := by decide +kernel
theorem dX5_tellTowns_14 : decode cX5_tellTowns 14 = .ok (.getfield 12, 3) := by decide +kernel
theorem dX5_tellTowns_17 : decode cX5_tellTowns 17 = .ok (.iload_n 1, 1) := by decide +kernel
theorem dX5_tellTowns_18 : decode cX5_tellTowns 18 = .ok (.invokevirtual 59, 3) := by decide +kernel
theorem dX5_tellTowns_21 : decode cX5_tellTowns 21 = .ok (.iconst 1, 1) := by decide +kernel
theorem dX5_tellTowns_22 : decode cX5_tellTowns 22 = .ok (.ireturn, 1) := by decide +kernel
theorem dX5_tellRoad_0 : decode cX5_tellRoad 0 = .ok (.aload_n 0, 1) := by decide +kernel
theorem dX5_tellRoad_1 : decode cX5_tellRoad 1 = .ok (.iload_n 1, 1) := by decide +kernel
theorem dX5_tellRoad_2 : decode cX5_tellRoad 2 = .ok (.iload_n 2, 1) := by decide +kernel
theorem dX5_tellRoad_3 : decode cX5_tellRoad 3 = .ok (.invokevirtual 63, 3) := by decide +kernel
theorem dX5_tellRoad_6 : decode cX5_tellRoad 6 = .ok (.ifCond .eq 14, 3) := by decide +kernel
theorem dX5_tellRoad_9 : decode cX5_tellRoad 9 = .ok (.iload_n 3, 1) := by decide +kernel
theorem dX5_tellRoad_10 : decode cX5_tellRoad 10 = .ok (.iconst 1, 1) := by decide +kernel
theorem dX5_tellRoad_11 : decode cX5_tellRoad 11 = .ok (.if_icmp .lt 9, 3) := by decide +kernel
theorem dX5_tellRoad_14 : decode cX5_tellRoad 14 = .ok (.iload_n 3, 1) := by decide +kernel
theorem dX5_tellRoad_15 : decode cX5_tellRoad 15 = .ok (.bipush 9, 2) := by decide +kernel
theorem dX5_tellRoad_17 : decode cX5_tellRoad 17 = .ok (.if_icmp .le 5, 3) := by decide +kernel
theorem dX5_tellRoad_20 : decode cX5_tellRoad 20 = .ok (.iconst 0, 1) := by decide +kernel
theorem dX5_tellRoad_21 : decode cX5_tellRoad 21 = .ok (.ireturn, 1) := by decide +kernel
theorem dX5_tellRoad_22 : decode cX5_tellRoad 22 = .ok (.aload_n 0, 1) := by decide +kernel
theorem dX5_tellRoad_23 : decode cX5_tellRoad 23 = .ok (.getfield 12, 3) := by decide +kernel
theorem dX5_tellRoad_26 : decode cX5_tellRoad 26 = .ok (.iload_n 1, 1) := by decide +kernel
theorem dX5_tellRoad_27 : decode cX5_tellRoad 27 = .ok (.iload_n 2, 1) := by decide +kernel
theorem dX5_tellRoad_28 : decode cX5_tellRoad 28 = .ok (.iload_n 3, 1) := by decide +kernel
theorem dX5_tellRoad_29 : decode cX5_tellRoad 29 = .ok (.invokevirtual 67, 3) := by decide +kernel
theorem dX5_tellRoad_32 : decode cX5_tellRoad 32 = .ok (.iconst 1, 1) := by decide +kernel
theorem dX5_tellRoad_33 : decode cX5_tellRoad 33 = .ok (.ireturn, 1) := by decide +kernel
theorem dX5_tellPost_0 : decode cX5_tellPost 0 = .ok (.iload_n 1, 1) := by decide +kernel
theorem dX5_tellPost_1 : decode cX5_tellPost 1 = .ok (.ifCond .lt 30, 3) := by decide +kernel
theorem dX5_tellPost_4 : decode cX5_tellPost 4 = .ok (.iload_n 1, 1) := by decide +kernel
theorem dX5_tellPost_5 : decode cX5_tellPost 5 = .ok (.iconst 4, 1) := by decide +kernel
theorem dX5_tellPost_6 : decode cX5_tellPost 6 = .ok (.if_icmp .ge 25, 3) := by decide +kernel
theorem dX5_tellPost_9 : decode cX5_tellPost 9 = .ok (.aload_n 0, 1) := by decide +kernel
theorem dX5_tellPost_10 : decode cX5_tellPost 10 = .ok (.iload_n 2, 1) := by decide +kernel
theorem dX5_tellPost_11 : decode cX5_tellPost 11 = .ok (.invokevirtual 71, 3) := by decide +kernel
theorem dX5_tellPost_14 : decode cX5_tellPost 14 = .ok (.ifCond .eq 17, 3) := by decide +kernel
theorem dX5_tellPost_17 : decode cX5_tellPost 17 = .ok (.iload_n 3, 1) := by decide +kernel
theorem dX5_tellPost_18 : decode cX5_tellPost 18 = .ok (.ifCond .lt 13, 3) := by decide +kernel
theorem dX5_tellPost_21 : decode cX5_tellPost 21 = .ok (.iload_n 3, 1) := by decide +kernel
theorem dX5_tellPost_22 : decode cX5_tellPost 22 = .ok (.bipush 59, 2) := by decide +kernel
theorem dX5_tellPost_24 : decode cX5_tellPost 24 = .ok (.if_icmp .gt 7, 3) := by decide +kernel
theorem dX5_tellPost_27 : decode cX5_tellPost 27 = .ok (.iconst 1, 1) := by decide +kernel
theorem dX5_tellPost_28 : decode cX5_tellPost 28 = .ok (.goto 4, 3) := by decide +kernel
theorem dX5_tellPost_31 : decode cX5_tellPost 31 = .ok (.iconst 0, 1) := by decide +kernel
theorem dX5_tellPost_32 : decode cX5_tellPost 32 = .ok (.istore 4, 2) := by decide +kernel
theorem dX5_tellPost_34 : decode cX5_tellPost 34 = .ok (.iload 4, 2) := by decide +kernel
theorem dX5_tellPost_36 : decode cX5_tellPost 36 = .ok (.ifCond .eq 12, 3) := by decide +kernel
theorem dX5_tellPost_39 : decode cX5_tellPost 39 = .ok (.aload_n 0, 1) := by decide +kernel
theorem dX5_tellPost_40 : decode cX5_tellPost 40 = .ok (.getfield 43, 3) := by decide +kernel
theorem dX5_tellPost_43 : decode cX5_tellPost 43 = .ok (.bipush 6, 2) := by decide +kernel
theorem dX5_tellPost_45 : decode cX5_tellPost 45 = .ok (.if_icmp .lt 5, 3) := by decide +kernel
theorem dX5_tellPost_48 : decode cX5_tellPost 48 = .ok (.iconst 0, 1) := by decide +kernel
theorem dX5_tellPost_49 : decode cX5_tellPost 49 = .ok (.ireturn, 1) := by decide +kernel
theorem dX5_tellPost_50 : decode cX5_tellPost 50 = .ok (.aload_n 0, 1) := by decide +kernel
theorem dX5_tellPost_51 : decode cX5_tellPost 51 = .ok (.getfield 23, 3) := by decide +kernel
theorem dX5_tellPost_54 : decode cX5_tellPost 54 = .ok (.aload_n 0, 1) := by decide +kernel
theorem dX5_tellPost_55 : decode cX5_tellPost 55 = .ok (.getfield 43, 3) := by decide +kernel
theorem dX5_tellPost_58 : decode cX5_tellPost 58 = .ok (.iconst 0, 1) := by decide +kernel
theorem dX5_tellPost_59 : decode cX5_tellPost 59 = .ok (.iload_n 1, 1) := by decide +kernel
theorem dX5_tellPost_60 : decode cX5_tellPost 60 = .ok (.invokevirtual 75, 3) := by decide +kernel
theorem dX5_tellPost_63 : decode cX5_tellPost 63 = .ok (.aload_n 0, 1) := by decide +kernel
theorem dX5_tellPost_64 : decode cX5_tellPost 64 = .ok (.getfield 23, 3) := by decide +kernel
theorem dX5_tellPost_67 : decode cX5_tellPost 67 = .ok (.aload_n 0, 1) := by decide +kernel
theorem dX5_tellPost_68 : decode cX5_tellPost 68 = .ok (.getfield 43, 3) := by decide +kernel
theorem dX5_tellPost_71 : decode cX5_tellPost 71 = .ok (.iconst 1, 1) := by decide +kernel
theorem dX5_tellPost_72 : decode cX5_tellPost 72 = .ok (.iload_n 2, 1) := by decide +kernel
theorem dX5_tellPost_73 : decode cX5_tellPost 73 = .ok (.invokevirtual 75, 3) := by decide +kernel
theorem dX5_tellPost_76 : decode cX5_tellPost 76 = .ok (.aload_n 0, 1) := by decide +kernel
theorem dX5_tellPost_77 : decode cX5_tellPost 77 = .ok (.getfield 23, 3) := by decide +kernel
theorem dX5_tellPost_80 : decode cX5_tellPost 80 = .ok (.aload_n 0, 1) := by decide +kernel
theorem dX5_tellPost_81 : decode cX5_tellPost 81 = .ok (.getfield 43, 3) := by decide +kernel
theorem dX5_tellPost_84 : decode cX5_tellPost 84 = .ok (.iconst 2, 1) := by decide +kernel
theorem dX5_tellPost_85 : decode cX5_tellPost 85 = .ok (.iload_n 3, 1) := by decide +kernel
theorem dX5_tellPost_86 : decode cX5_tellPost 86 = .ok (.invokevirtual 75, 3) := by decide +kernel
theorem dX5_tellPost_89 : decode cX5_tellPost 89 = .ok (.aload_n 0, 1) := by decide +kernel
theorem dX5_tellPost_90 : decode cX5_tellPost 90 = .ok (.dup, 1) := by decide +kernel
theorem dX5_tellPost_91 : decode cX5_tellPost 91 = .ok (.getfield 43, 3) := by decide +kernel
theorem dX5_tellPost_94 : decode cX5_tellPost 94 = .ok (.iconst 1, 1) := by decide +kernel
theorem dX5_tellPost_95 : decode cX5_tellPost 95 = .ok (.iadd, 1) := by decide +kernel
theorem dX5_tellPost_96 : decode cX5_tellPost 96 = .ok (.putfield 43, 3) := by decide +kernel
theorem dX5_tellPost_99 : decode cX5_tellPost 99 = .ok (.iconst 1, 1) := by decide +kernel
theorem dX5_tellPost_100 : decode cX5_tellPost 100 = .ok (.ireturn, 1) := by decide +kernel
theorem dX5_tellWalker_0 : decode cX5_tellWalker 0 = .ok (.aload_n 0, 1) := by decide +kernel
theorem dX5_tellWalker_1 : decode cX5_tellWalker 1 = .ok (.iload_n 1, 1) := by decide +kernel
theorem dX5_tellWalker_2 : decode cX5_tellWalker 2 = .ok (.iload_n 2, 1) := by decide +kernel
theorem dX5_tellWalker_3 : decode cX5_tellWalker 3 = .ok (.invokevirtual 63, 3) := by decide +kernel
theorem dX5_tellWalker_6 : decode cX5_tellWalker 6 = .ok (.ifCond .eq 11, 3) := by decide +kernel
theorem dX5_tellWalker_9 : decode cX5_tellWalker 9 = .ok (.aload_n 0, 1) := by decide +kernel
theorem dX5_tellWalker_10 : decode cX5_tellWalker 10 = .ok (.getfield 47, 3) := by decide +kernel
theorem dX5_tellWalker_13 : decode cX5_tellWalker 13 = .ok (.iconst 5, 1) := by decide +kernel
theorem dX5_tellWalker_14 : decode cX5_tellWalker 14 = .ok (.if_icmp .lt 5, 3) := by decide +kernel
theorem dX5_tellWalker_17 : decode cX5_tellWalker 17 = .ok (.iconst 0, 1) := by decide +kernel
theorem dX5_tellWalker_18 : decode cX5_tellWalker 18 = .ok (.ireturn, 1) := by decide +kernel
theorem dX5_tellWalker_19 : decode cX5_tellWalker 19 = .ok (.aload_n 0, 1) := by decide +kernel
theorem dX5_tellWalker_20 : decode cX5_tellWalker 20 = .ok (.getfield 33, 3) := by decide +kernel
theorem dX5_tellWalker_23 : decode cX5_tellWalker 23 = .ok (.aload_n 0, 1) := by decide +kernel
theorem dX5_tellWalker_24 : decode cX5_tellWalker 24 = .ok (.getfield 47, 3) := by decide +kernel
theorem dX5_tellWalker_27 : decode cX5_tellWalker 27 = .ok (.iconst 0, 1) := by decide +kernel
theorem dX5_tellWalker_28 : decode cX5_tellWalker 28 = .ok (.iload_n 1, 1) := by decide +kernel
theorem dX5_tellWalker_29 : decode cX5_tellWalker 29 = .ok (.invokevirtual 75, 3) := by decide +kernel
theorem dX5_tellWalker_32 : decode cX5_tellWalker 32 = .ok (.aload_n 0, 1) := by decide +kernel
theorem dX5_tellWalker_33 : decode cX5_tellWalker 33 = .ok (.getfield 33, 3) := by decide +kernel
theorem dX5_tellWalker_36 : decode cX5_tellWalker 36 = .ok (.aload_n 0, 1) := by decide +kernel
theorem dX5_tellWalker_37 : decode cX5_tellWalker 37 = .ok (.getfield 47, 3) := by decide +kernel
theorem dX5_tellWalker_40 : decode cX5_tellWalker 40 = .ok (.iconst 1, 1) := by decide +kernel
theorem dX5_tellWalker_41 : decode cX5_tellWalker 41 = .ok (.iload_n 2, 1) := by decide +kernel
theorem dX5_tellWalker_42 : decode cX5_tellWalker 42 = .ok (.invokevirtual 75, 3) := by decide +kernel
theorem dX5_tellWalker_45 : decode cX5_tellWalker 45 = .ok (.aload_n 0, 1) := by decide +kernel
theorem dX5_tellWalker_46 : decode cX5_tellWalker 46 = .ok (.dup, 1) := by decide +kernel
theorem dX5_tellWalker_47 : decode cX5_tellWalker 47 = .ok (.getfield 47, 3) := by decide +kernel
theorem dX5_tellWalker_50 : decode cX5_tellWalker 50 = .ok (.iconst 1, 1) := by decide +kernel
theorem dX5_tellWalker_51 : decode cX5_tellWalker 51 = .ok (.iadd, 1) := by decide +kernel
theorem dX5_tellWalker_52 : decode cX5_tellWalker 52 = .ok (.putfield 47, 3) := by decide +kernel
theorem dX5_tellWalker_55 : decode cX5_tellWalker 55 = .ok (.iconst 1, 1) := by decide +kernel
theorem dX5_tellWalker_56 : decode cX5_tellWalker 56 = .ok (.ireturn, 1) := by decide +kernel
theorem dX5_paintAll_0 : decode cX5_paintAll 0 = .ok (.aload_n 0, 1) := by decide +kernel
theorem dX5_paintAll_1 : decode cX5_paintAll 1 = .ok (.getfield 12, 3) := by decide +kernel
theorem dX5_paintAll_4 : decode cX5_paintAll 4 = .ok (.invokevirtual 78, 3) := by decide +kernel
theorem dX5_paintAll_7 : decode cX5_paintAll 7 = .ok (.iconst 0, 1) := by decide +kernel
theorem dX5_paintAll_8 : decode cX5_paintAll 8 = .ok (.istore_n 1, 1) := by decide +kernel
theorem dX5_paintAll_9 : decode cX5_paintAll 9 = .ok (.iload_n 1, 1) := by decide +kernel
theorem dX5_paintAll_10 : decode cX5_paintAll 10 = .ok (.aload_n 0, 1) := by decide +kernel
theorem dX5_paintAll_11 : decode cX5_paintAll 11 = .ok (.getfield 43, 3) := by decide +kernel
theorem dX5_paintAll_14 : decode cX5_paintAll 14 = .ok (.if_icmp .ge 15, 3) := by decide +kernel
theorem dX5_paintAll_17 : decode cX5_paintAll 17 = .ok (.aload_n 0, 1) := by decide +kernel
theorem dX5_paintAll_18 : decode cX5_paintAll 18 = .ok (.iload_n 1, 1) := by decide +kernel
theorem dX5_paintAll_19 : decode cX5_paintAll 19 = .ok (.invokevirtual 81, 3) := by decide +kernel
theorem dX5_paintAll_22 : decode cX5_paintAll 22 = .ok (.pop, 1) := by decide +kernel
theorem dX5_paintAll_23 : decode cX5_paintAll 23 = .ok (.iinc 1 1, 3) := by decide +kernel
theorem dX5_paintAll_26 : decode cX5_paintAll 26 = .ok (.goto (-17), 3) := by decide +kernel
theorem dX5_paintAll_29 : decode cX5_paintAll 29 = .ok (.return_, 1) := by decide +kernel
theorem dX5_roads_0 : decode cX5_roads 0 = .ok (.aload_n 0, 1) := by decide +kernel
theorem dX5_roads_1 : decode cX5_roads 1 = .ok (.getfield 12, 3) := by decide +kernel
theorem dX5_roads_4 : decode cX5_roads 4 = .ok (.areturn, 1) := by decide +kernel
theorem dX5_towns_0 : decode cX5_towns 0 = .ok (.aload_n 0, 1) := by decide +kernel
theorem dX5_towns_1 : decode cX5_towns 1 = .ok (.getfield 12, 3) := by decide +kernel
theorem dX5_towns_4 : decode cX5_towns 4 = .ok (.invokevirtual 85, 3) := by decide +kernel
theorem dX5_towns_7 : decode cX5_towns 7 = .ok (.ireturn, 1) := by decide +kernel
theorem dX5_posts_0 : decode cX5_posts 0 = .ok (.aload_n 0, 1) := by decide +kernel
theorem dX5_posts_1 : decode cX5_posts 1 = .ok (.getfield 43, 3) := by decide +kernel
theorem dX5_posts_4 : decode cX5_posts 4 = .ok (.ireturn, 1) := by decide +kernel
theorem dX5_walkers_0 : decode cX5_walkers 0 = .ok (.aload_n 0, 1) := by decide +kernel
theorem dX5_walkers_1 : decode cX5_walkers 1 = .ok (.getfield 47, 3) := by decide +kernel
theorem dX5_walkers_4 : decode cX5_walkers 4 = .ok (.ireturn, 1) := by decide +kernel
theorem dX5_hour_0 : decode cX5_hour 0 = .ok (.aload_n 0, 1) := by decide +kernel
theorem dX5_hour_1 : decode cX5_hour 1 = .ok (.getfield 50, 3) := by decide +kernel
theorem dX5_hour_4 : decode cX5_hour 4 = .ok (.ireturn, 1) := by decide +kernel
theorem dX5_years_0 : decode cX5_years 0 = .ok (.aload_n 0, 1) := by decide +kernel
theorem dX5_years_1 : decode cX5_years 1 = .ok (.getfield 53, 3) := by decide +kernel
theorem dX5_years_4 : decode cX5_years 4 = .ok (.ireturn, 1) := by decide +kernel
theorem dX5_isTown_0 : decode cX5_isTown 0 = .ok (.iload_n 1, 1) := by decide +kernel
theorem dX5_isTown_1 : decode cX5_isTown 1 = .ok (.ifCond .lt 18, 3) := by decide +kernel
theorem dX5_isTown_4 : decode cX5_isTown 4 = .ok (.iload_n 1, 1) := by decide +kernel
theorem dX5_isTown_5 : decode cX5_isTown 5 = .ok (.aload_n 0, 1) := by decide +kernel
theorem dX5_isTown_6 : decode cX5_isTown 6 = .ok (.getfield 12, 3) := by decide +kernel
theorem dX5_isTown_9 : decode cX5_isTown 9 = .ok (.invokevirtual 85, 3) := by decide +kernel
theorem dX5_isTown_12 : decode cX5_isTown 12 = .ok (.if_icmp .ge 7, 3) := by decide +kernel
theorem dX5_isTown_15 : decode cX5_isTown 15 = .ok (.iconst 1, 1) := by decide +kernel
theorem dX5_isTown_16 : decode cX5_isTown 16 = .ok (.goto 4, 3) := by decide +kernel
theorem dX5_isTown_19 : decode cX5_isTown 19 = .ok (.iconst 0, 1) := by decide +kernel
theorem dX5_isTown_20 : decode cX5_isTown 20 = .ok (.ireturn, 1) := by decide +kernel
theorem dX5_areTwoTowns_0 : decode cX5_areTwoTowns 0 = .ok (.aload_n 0, 1) := by decide +kernel
theorem dX5_areTwoTowns_1 : decode cX5_areTwoTowns 1 = .ok (.iload_n 1, 1) := by decide +kernel
theorem dX5_areTwoTowns_2 : decode cX5_areTwoTowns 2 = .ok (.invokevirtual 71, 3) := by decide +kernel
theorem dX5_areTwoTowns_5 : decode cX5_areTwoTowns 5 = .ok (.ifCond .eq 20, 3) := by decide +kernel
theorem dX5_areTwoTowns_8 : decode cX5_areTwoTowns 8 = .ok (.aload_n 0, 1) := by decide +kernel
theorem dX5_areTwoTowns_9 : decode cX5_areTwoTowns 9 = .ok (.iload_n 2, 1) := by decide +kernel
theorem dX5_areTwoTowns_10 : decode cX5_areTwoTowns 10 = .ok (.invokevirtual 71, 3) := by decide +kernel
theorem dX5_areTwoTowns_13 : decode cX5_areTwoTowns 13 = .ok (.ifCond .eq 12, 3) := by decide +kernel
theorem dX5_areTwoTowns_16 : decode cX5_areTwoTowns 16 = .ok (.iload_n 1, 1) := by decide +kernel
theorem dX5_areTwoTowns_17 : decode cX5_areTwoTowns 17 = .ok (.iload_n 2, 1) := by decide +kernel
theorem dX5_areTwoTowns_18 : decode cX5_areTwoTowns 18 = .ok (.if_icmp .eq 7, 3) := by decide +kernel
theorem dX5_areTwoTowns_21 : decode cX5_areTwoTowns 21 = .ok (.iconst 1, 1) := by decide +kernel
theorem dX5_areTwoTowns_22 : decode cX5_areTwoTowns 22 = .ok (.goto 4, 3) := by decide +kernel
theorem dX5_areTwoTowns_25 : decode cX5_areTwoTowns 25 = .ok (.iconst 0, 1) := by decide +kernel
theorem dX5_areTwoTowns_26 : decode cX5_areTwoTowns 26 = .ok (.ireturn, 1) := by decide +kernel
theorem dX5_isPost_0 : decode cX5_isPost 0 = .ok (.iload_n 1, 1) := by decide +kernel
theorem dX5_isPost_1 : decode cX5_isPost 1 = .ok (.ifCond .lt 15, 3) := by decide +kernel
theorem dX5_isPost_4 : decode cX5_isPost 4 = .ok (.iload_n 1, 1) := by decide +kernel
theorem dX5_isPost_5 : decode cX5_isPost 5 = .ok (.aload_n 0, 1) := by decide +kernel
theorem dX5_isPost_6 : decode cX5_isPost 6 = .ok (.getfield 43, 3) := by decide +kernel
theorem dX5_isPost_9 : decode cX5_isPost 9 = .ok (.if_icmp .ge 7, 3) := by decide +kernel
theorem dX5_isPost_12 : decode cX5_isPost 12 = .ok (.iconst 1, 1) := by decide +kernel
theorem dX5_isPost_13 : decode cX5_isPost 13 = .ok (.goto 4, 3) := by decide +kernel
theorem dX5_isPost_16 : decode cX5_isPost 16 = .ok (.iconst 0, 1) := by decide +kernel
theorem dX5_isPost_17 : decode cX5_isPost 17 = .ok (.ireturn, 1) := by decide +kernel
theorem dX5_isWalker_0 : decode cX5_isWalker 0 = .ok (.iload_n 1, 1) := by decide +kernel
theorem dX5_isWalker_1 : decode cX5_isWalker 1 = .ok (.ifCond .lt 15, 3) := by decide +kernel
theorem dX5_isWalker_4 : decode cX5_isWalker 4 = .ok (.iload_n 1, 1) := by decide +kernel
theorem dX5_isWalker_5 : decode cX5_isWalker 5 = .ok (.aload_n 0, 1) := by decide +kernel
theorem dX5_isWalker_6 : decode cX5_isWalker 6 = .ok (.getfield 47, 3) := by decide +kernel
theorem dX5_isWalker_9 : decode cX5_isWalker 9 = .ok (.if_icmp .ge 7, 3) := by decide +kernel
theorem dX5_isWalker_12 : decode cX5_isWalker 12 = .ok (.iconst 1, 1) := by decide +kernel
theorem dX5_isWalker_13 : decode cX5_isWalker 13 = .ok (.goto 4, 3) := by decide +kernel
theorem dX5_isWalker_16 : decode cX5_isWalker 16 = .ok (.iconst 0, 1) := by decide +kernel
theorem dX5_isWalker_17 : decode cX5_isWalker 17 = .ok (.ireturn, 1) := by decide +kernel
theorem dX5_kindOf_0 : decode cX5_kindOf 0 = .ok (.aload_n 0, 1) := by decide +kernel
theorem dX5_kindOf_1 : decode cX5_kindOf 1 = .ok (.getfield 23, 3) := by decide +kernel
theorem dX5_kindOf_4 : decode cX5_kindOf 4 = .ok (.iload_n 1, 1) := by decide +kernel
theorem dX5_kindOf_5 : decode cX5_kindOf 5 = .ok (.iconst 0, 1) := by decide +kernel
theorem dX5_kindOf_6 : decode cX5_kindOf 6 = .ok (.invokevirtual 89, 3) := by decide +kernel
theorem dX5_kindOf_9 : decode cX5_kindOf 9 = .ok (.ireturn, 1) := by decide +kernel
theorem dX5_townOf_0 : decode cX5_townOf 0 = .ok (.aload_n 0, 1) := by decide +kernel
theorem dX5_townOf_1 : decode cX5_townOf 1 = .ok (.getfield 23, 3) := by decide +kernel
theorem dX5_townOf_4 : decode cX5_townOf 4 = .ok (.iload_n 1, 1) := by decide +kernel
theorem dX5_townOf_5 : decode cX5_townOf 5 = .ok (.iconst 1, 1) := by decide +kernel
theorem dX5_townOf_6 : decode cX5_townOf 6 = .ok (.invokevirtual 89, 3) := by decide +kernel
theorem dX5_townOf_9 : decode cX5_townOf 9 = .ok (.ireturn, 1) := by decide +kernel
theorem dX5_ageOf_0 : decode cX5_ageOf 0 = .ok (.aload_n 0, 1) := by decide +kernel
theorem dX5_ageOf_1 : decode cX5_ageOf 1 = .ok (.getfield 23, 3) := by decide +kernel
theorem dX5_ageOf_4 : decode cX5_ageOf 4 = .ok (.iload_n 1, 1) := by decide +kernel
theorem dX5_ageOf_5 : decode cX5_ageOf 5 = .ok (.iconst 2, 1) := by decide +kernel
theorem dX5_ageOf_6 : decode cX5_ageOf 6 = .ok (.invokevirtual 89, 3) := by decide +kernel
theorem dX5_ageOf_9 : decode cX5_ageOf 9 = .ok (.ireturn, 1) := by decide +kernel
theorem dX5_armOf_0 : decode cX5_armOf 0 = .ok (.aload_n 0, 1) := by decide +kernel
theorem dX5_armOf_1 : decode cX5_armOf 1 = .ok (.getfield 27, 3) := by decide +kernel
theorem dX5_armOf_4 : decode cX5_armOf 4 = .ok (.iload_n 1, 1) := by decide +kernel
theorem dX5_armOf_5 : decode cX5_armOf 5 = .ok (.iload_n 2, 1) := by decide +kernel
theorem dX5_armOf_6 : decode cX5_armOf 6 = .ok (.invokevirtual 89, 3) := by decide +kernel
theorem dX5_armOf_9 : decode cX5_armOf 9 = .ok (.ireturn, 1) := by decide +kernel
theorem dX5_milesOf_0 : decode cX5_milesOf 0 = .ok (.aload_n 0, 1) := by decide +kernel
theorem dX5_milesOf_1 : decode cX5_milesOf 1 = .ok (.getfield 30, 3) := by decide +kernel
theorem dX5_milesOf_4 : decode cX5_milesOf 4 = .ok (.iload_n 1, 1) := by decide +kernel
theorem dX5_milesOf_5 : decode cX5_milesOf 5 = .ok (.iload_n 2, 1) := by decide +kernel
theorem dX5_milesOf_6 : decode cX5_milesOf 6 = .ok (.invokevirtual 89, 3) := by decide +kernel
theorem dX5_milesOf_9 : decode cX5_milesOf 9 = .ok (.ireturn, 1) := by decide +kernel
theorem dX5_placeOf_0 : decode cX5_placeOf 0 = .ok (.aload_n 0, 1) := by decide +kernel
theorem dX5_placeOf_1 : decode cX5_placeOf 1 = .ok (.getfield 33, 3) := by decide +kernel
theorem dX5_placeOf_4 : decode cX5_placeOf 4 = .ok (.iload_n 1, 1) := by decide +kernel
theorem dX5_placeOf_5 : decode cX5_placeOf 5 = .ok (.iconst 0, 1) := by decide +kernel
theorem dX5_placeOf_6 : decode cX5_placeOf 6 = .ok (.invokevirtual 89, 3) := by decide +kernel
theorem dX5_placeOf_9 : decode cX5_placeOf 9 = .ok (.ireturn, 1) := by decide +kernel
theorem dX5_goalOf_0 : decode cX5_goalOf 0 = .ok (.aload_n 0, 1) := by decide +kernel
theorem dX5_goalOf_1 : decode cX5_goalOf 1 = .ok (.getfield 33, 3) := by decide +kernel
theorem dX5_goalOf_4 : decode cX5_goalOf 4 = .ok (.iload_n 1, 1) := by decide +kernel
theorem dX5_goalOf_5 : decode cX5_goalOf 5 = .ok (.iconst 1, 1) := by decide +kernel
theorem dX5_goalOf_6 : decode cX5_goalOf 6 = .ok (.invokevirtual 89, 3) := by decide +kernel
theorem dX5_goalOf_9 : decode cX5_goalOf 9 = .ok (.ireturn, 1) := by decide +kernel
theorem dX5_hasCome_0 : decode cX5_hasCome 0 = .ok (.aload_n 0, 1) := by decide +kernel
theorem dX5_hasCome_1 : decode cX5_hasCome 1 = .ok (.getfield 33, 3) := by decide +kernel
theorem dX5_hasCome_4 : decode cX5_hasCome 4 = .ok (.iload_n 1, 1) := by decide +kernel
theorem dX5_hasCome_5 : decode cX5_hasCome 5 = .ok (.iconst 0, 1) := by decide +kernel
theorem dX5_hasCome_6 : decode cX5_hasCome 6 = .ok (.invokevirtual 89, 3) := by decide +kernel
theorem dX5_hasCome_9 : decode cX5_hasCome 9 = .ok (.aload_n 0, 1) := by decide +kernel
theorem dX5_hasCome_10 : decode cX5_hasCome 10 = .ok (.getfield 33, 3) := by decide +kernel
theorem dX5_hasCome_13 : decode cX5_hasCome 13 = .ok (.iload_n 1, 1) := by decide +kernel
theorem dX5_hasCome_14 : decode cX5_hasCome 14 = .ok (.iconst 1, 1) := by decide +kernel
theorem dX5_hasCome_15 : decode cX5_hasCome 15 = .ok (.invokevirtual 89, 3) := by decide +kernel
theorem dX5_hasCome_18 : decode cX5_hasCome 18 = .ok (.if_icmp .ne 7, 3) := by decide +kernel
theorem dX5_hasCome_21 : decode cX5_hasCome 21 = .ok (.iconst 1, 1) := by decide +kernel
theorem dX5_hasCome_22 : decode cX5_hasCome 22 = .ok (.goto 4, 3) := by decide +kernel
theorem dX5_hasCome_25 : decode cX5_hasCome 25 = .ok (.iconst 0, 1) := by decide +kernel
theorem dX5_hasCome_26 : decode cX5_hasCome 26 = .ok (.ireturn, 1) := by decide +kernel
theorem dX5_isRetired_0 : decode cX5_isRetired 0 = .ok (.aload_n 0, 1) := by decide +kernel
theorem dX5_isRetired_1 : decode cX5_isRetired 1 = .ok (.getfield 23, 3) := by decide +kernel
theorem dX5_isRetired_4 : decode cX5_isRetired 4 = .ok (.iload_n 1, 1) := by decide +kernel
theorem dX5_isRetired_5 : decode cX5_isRetired 5 = .ok (.iconst 1, 1) := by decide +kernel
theorem dX5_isRetired_6 : decode cX5_isRetired 6 = .ok (.invokevirtual 89, 3) := by decide +kernel
theorem dX5_isRetired_9 : decode cX5_isRetired 9 = .ok (.bipush (-4), 2) := by decide +kernel
theorem dX5_isRetired_11 : decode cX5_isRetired 11 = .ok (.if_icmp .ne 7, 3) := by decide +kernel
theorem dX5_isRetired_14 : decode cX5_isRetired 14 = .ok (.iconst 1, 1) := by decide +kernel
theorem dX5_isRetired_15 : decode cX5_isRetired 15 = .ok (.goto 4, 3) := by decide +kernel
theorem dX5_isRetired_18 : decode cX5_isRetired 18 = .ok (.iconst 0, 1) := by decide +kernel
theorem dX5_isRetired_19 : decode cX5_isRetired 19 = .ok (.ireturn, 1) := by decide +kernel
theorem dX5_noneRetired_0 : decode cX5_noneRetired 0 = .ok (.iconst 0, 1) := by decide +kernel
theorem dX5_noneRetired_1 : decode cX5_noneRetired 1 = .ok (.istore_n 2, 1) := by decide +kernel
theorem dX5_noneRetired_2 : decode cX5_noneRetired 2 = .ok (.iload_n 2, 1) := by decide +kernel
theorem dX5_noneRetired_3 : decode cX5_noneRetired 3 = .ok (.aload_n 0, 1) := by decide +kernel
theorem dX5_noneRetired_4 : decode cX5_noneRetired 4 = .ok (.getfield 43, 3) := by decide +kernel
theorem dX5_noneRetired_7 : decode cX5_noneRetired 7 = .ok (.if_icmp .ge 27, 3) := by decide +kernel
theorem dX5_noneRetired_10 : decode cX5_noneRetired 10 = .ok (.iload_n 1, 1) := by decide +kernel
theorem dX5_noneRetired_11 : decode cX5_noneRetired 11 = .ok (.iload_n 2, 1) := by decide +kernel
theorem dX5_noneRetired_12 : decode cX5_noneRetired 12 = .ok (.invokestatic 93, 3) := by decide +kernel
theorem dX5_noneRetired_15 : decode cX5_noneRetired 15 = .ok (.ifCond .eq 13, 3) := by decide +kernel
theorem dX5_noneRetired_18 : decode cX5_noneRetired 18 = .ok (.aload_n 0, 1) := by decide +kernel
theorem dX5_noneRetired_19 : decode cX5_noneRetired 19 = .ok (.iload_n 2, 1) := by decide +kernel
theorem dX5_noneRetired_20 : decode cX5_noneRetired 20 = .ok (.invokevirtual 96, 3) := by decide +kernel
theorem dX5_noneRetired_23 : decode cX5_noneRetired 23 = .ok (.ifCond .eq 5, 3) := by decide +kernel
theorem dX5_noneRetired_26 : decode cX5_noneRetired 26 = .ok (.iconst 0, 1) := by decide +kernel
theorem dX5_noneRetired_27 : decode cX5_noneRetired 27 = .ok (.ireturn, 1) := by decide +kernel
theorem dX5_noneRetired_28 : decode cX5_noneRetired 28 = .ok (.iinc 2 1, 3) := by decide +kernel
theorem dX5_noneRetired_31 : decode cX5_noneRetired 31 = .ok (.goto (-29), 3) := by decide +kernel
theorem dX5_noneRetired_34 : decode cX5_noneRetired 34 = .ok (.iconst 1, 1) := by decide +kernel
theorem dX5_noneRetired_35 : decode cX5_noneRetired 35 = .ok (.ireturn, 1) := by decide +kernel
theorem dX5_comeCount_0 : decode cX5_comeCount 0 = .ok (.iconst 0, 1) := by decide +kernel
theorem dX5_comeCount_1 : decode cX5_comeCount 1 = .ok (.istore_n 1, 1) := by decide +kernel
theorem dX5_comeCount_2 : decode cX5_comeCount 2 = .ok (.iconst 0, 1) := by decide +kernel
theorem dX5_comeCount_3 : decode cX5_comeCount 3 = .ok (.istore_n 2, 1) := by decide +kernel
theorem dX5_comeCount_4 : decode cX5_comeCount 4 = .ok (.iload_n 2, 1) := by decide +kernel
theorem dX5_comeCount_5 : decode cX5_comeCount 5 = .ok (.aload_n 0, 1) := by decide +kernel
theorem dX5_comeCount_6 : decode cX5_comeCount 6 = .ok (.getfield 47, 3) := by decide +kernel
theorem dX5_comeCount_9 : decode cX5_comeCount 9 = .ok (.if_icmp .ge 20, 3) := by decide +kernel
theorem dX5_comeCount_12 : decode cX5_comeCount 12 = .ok (.aload_n 0, 1) := by decide +kernel
theorem dX5_comeCount_13 : decode cX5_comeCount 13 = .ok (.iload_n 2, 1) := by decide +kernel
theorem dX5_comeCount_14 : decode cX5_comeCount 14 = .ok (.invokevirtual 99, 3) := by decide +kernel
theorem dX5_comeCount_17 : decode cX5_comeCount 17 = .ok (.ifCond .eq 6, 3) := by decide +kernel
theorem dX5_comeCount_20 : decode cX5_comeCount 20 = .ok (.iinc 1 1, 3) := by decide +kernel
theorem dX5_comeCount_23 : decode cX5_comeCount 23 = .ok (.iinc 2 1, 3) := by decide +kernel
theorem dX5_comeCount_26 : decode cX5_comeCount 26 = .ok (.goto (-22), 3) := by decide +kernel
theorem dX5_comeCount_29 : decode cX5_comeCount 29 = .ok (.iload_n 1, 1) := by decide +kernel
theorem dX5_comeCount_30 : decode cX5_comeCount 30 = .ok (.ireturn, 1) := by decide +kernel
theorem dX5_retiredCount_0 : decode cX5_retiredCount 0 = .ok (.iconst 0, 1) := by decide +kernel
theorem dX5_retiredCount_1 : decode cX5_retiredCount 1 = .ok (.istore_n 1, 1) := by decide +kernel
theorem dX5_retiredCount_2 : decode cX5_retiredCount 2 = .ok (.iconst 0, 1) := by decide +kernel
theorem dX5_retiredCount_3 : decode cX5_retiredCount 3 = .ok (.istore_n 2, 1) := by decide +kernel
theorem dX5_retiredCount_4 : decode cX5_retiredCount 4 = .ok (.iload_n 2, 1) := by decide +kernel
theorem dX5_retiredCount_5 : decode cX5_retiredCount 5 = .ok (.aload_n 0, 1) := by decide +kernel
theorem dX5_retiredCount_6 : decode cX5_retiredCount 6 = .ok (.getfield 43, 3) := by decide +kernel
theorem dX5_retiredCount_9 : decode cX5_retiredCount 9 = .ok (.if_icmp .ge 20, 3) := by decide +kernel
theorem dX5_retiredCount_12 : decode cX5_retiredCount 12 = .ok (.aload_n 0, 1) := by decide +kernel
theorem dX5_retiredCount_13 : decode cX5_retiredCount 13 = .ok (.iload_n 2, 1) := by decide +kernel
theorem dX5_retiredCount_14 : decode cX5_retiredCount 14 = .ok (.invokevirtual 96, 3) := by decide +kernel
theorem dX5_retiredCount_17 : decode cX5_retiredCount 17 = .ok (.ifCond .eq 6, 3) := by decide +kernel
theorem dX5_retiredCount_20 : decode cX5_retiredCount 20 = .ok (.iinc 1 1, 3) := by decide +kernel
theorem dX5_retiredCount_23 : decode cX5_retiredCount 23 = .ok (.iinc 2 1, 3) := by decide +kernel
theorem dX5_retiredCount_26 : decode cX5_retiredCount 26 = .ok (.goto (-22), 3) := by decide +kernel
theorem dX5_retiredCount_29 : decode cX5_retiredCount 29 = .ok (.iload_n 1, 1) := by decide +kernel
theorem dX5_retiredCount_30 : decode cX5_retiredCount 30 = .ok (.ireturn, 1) := by decide +kernel
theorem dX5_lowestPostIn_0 : decode cX5_lowestPostIn 0 = .ok (.iconst 0, 1) := by decide +kernel
theorem dX5_lowestPostIn_1 : decode cX5_lowestPostIn 1 = .ok (.istore_n 2, 1) := by decide +kernel
theorem dX5_lowestPostIn_2 : decode cX5_lowestPostIn 2 = .ok (.iload_n 2, 1) := by decide +kernel
theorem dX5_lowestPostIn_3 : decode cX5_lowestPostIn 3 = .ok (.aload_n 0, 1) := by decide +kernel
theorem dX5_lowestPostIn_4 : decode cX5_lowestPostIn 4 = .ok (.getfield 43, 3) := by decide +kernel
theorem dX5_lowestPostIn_7 : decode cX5_lowestPostIn 7 = .ok (.if_icmp .ge 24, 3) := by decide +kernel
theorem dX5_lowestPostIn_10 : decode cX5_lowestPostIn 10 = .ok (.aload_n 0, 1) := by decide +kernel
theorem dX5_lowestPostIn_11 : decode cX5_lowestPostIn 11 = .ok (.getfield 23, 3) := by decide +kernel
theorem dX5_lowestPostIn_14 : decode cX5_lowestPostIn 14 = .ok (.iload_n 2, 1) := by decide +kernel
theorem dX5_lowestPostIn_15 : decode cX5_lowestPostIn 15 = .ok (.iconst 1, 1) := by decide +kernel
theorem dX5_lowestPostIn_16 : decode cX5_lowestPostIn 16 = .ok (.invokevirtual 89, 3) := by decide +kernel
theorem dX5_lowestPostIn_19 : decode cX5_lowestPostIn 19 = .ok (.iload_n 1, 1) := by decide +kernel
theorem dX5_lowestPostIn_20 : decode cX5_lowestPostIn 20 = .ok (.if_icmp .ne 5, 3) := by decide +kernel
theorem dX5_lowestPostIn_23 : decode cX5_lowestPostIn 23 = .ok (.iload_n 2, 1) := by decide +kernel
theorem dX5_lowestPostIn_24 : decode cX5_lowestPostIn 24 = .ok (.ireturn, 1) := by decide +kernel
theorem dX5_lowestPostIn_25 : decode cX5_lowestPostIn 25 = .ok (.iinc 2 1, 3) := by decide +kernel
theorem dX5_lowestPostIn_28 : decode cX5_lowestPostIn 28 = .ok (.goto (-26), 3) := by decide +kernel
theorem dX5_lowestPostIn_31 : decode cX5_lowestPostIn 31 = .ok (.bipush (-4), 2) := by decide +kernel
theorem dX5_lowestPostIn_33 : decode cX5_lowestPostIn 33 = .ok (.ireturn, 1) := by decide +kernel
theorem dX5_pointing_0 : decode cX5_pointing 0 = .ok (.aload_n 0, 1) := by decide +kernel
theorem dX5_pointing_1 : decode cX5_pointing 1 = .ok (.getfield 23, 3) := by decide +kernel
theorem dX5_pointing_4 : decode cX5_pointing 4 = .ok (.iload_n 1, 1) := by decide +kernel
theorem dX5_pointing_5 : decode cX5_pointing 5 = .ok (.iconst 1, 1) := by decide +kernel
theorem dX5_pointing_6 : decode cX5_pointing 6 = .ok (.invokevirtual 89, 3) := by decide +kernel
theorem dX5_pointing_9 : decode cX5_pointing 9 = .ok (.istore_n 3, 1) := by decide +kernel
theorem dX5_pointing_10 : decode cX5_pointing 10 = .ok (.aload_n 0, 1) := by decide +kernel
theorem dX5_pointing_11 : decode cX5_pointing 11 = .ok (.getfield 27, 3) := by decide +kernel
theorem dX5_pointing_14 : decode cX5_pointing 14 = .ok (.iload_n 1, 1) := by decide +kernel
theorem dX5_pointing_15 : decode cX5_pointing 15 = .ok (.iload_n 2, 1) := by decide +kernel
theorem dX5_pointing_16 : decode cX5_pointing 16 = .ok (.invokevirtual 89, 3) := by decide +kernel
theorem dX5_pointing_19 : decode cX5_pointing 19 = .ok (.istore 4, 2) := by decide +kernel
theorem dX5_pointing_21 : decode cX5_pointing 21 = .ok (.aload_n 0, 1) := by decide +kernel
theorem dX5_pointing_22 : decode cX5_pointing 22 = .ok (.iload_n 1, 1) := by decide +kernel
theorem dX5_pointing_23 : decode cX5_pointing 23 = .ok (.invokevirtual 102, 3) := by decide +kernel
theorem dX5_pointing_26 : decode cX5_pointing 26 = .ok (.istore 5, 2) := by decide +kernel
theorem dX5_pointing_28 : decode cX5_pointing 28 = .ok (.iconst 0, 1) := by decide +kernel
theorem dX5_pointing_29 : decode cX5_pointing 29 = .ok (.istore 6, 2) := by decide +kernel
theorem dX5_pointing_31 : decode cX5_pointing 31 = .ok (.iload 6, 2) := by decide +kernel
theorem dX5_pointing_33 : decode cX5_pointing 33 = .ok (.iload 5, 2) := by decide +kernel
theorem dX5_pointing_35 : decode cX5_pointing 35 = .ok (.if_icmp .ge 28, 3) := by decide +kernel
theorem dX5_pointing_38 : decode cX5_pointing 38 = .ok (.iload 4, 2) := by decide +kernel
theorem dX5_pointing_40 : decode cX5_pointing 40 = .ok (.bipush (-4), 2) := by decide +kernel
theorem dX5_pointing_42 : decode cX5_pointing 42 = .ok (.if_icmp .eq 21, 3) := by decide +kernel
theorem dX5_pointing_45 : decode cX5_pointing 45 = .ok (.aload_n 0, 1) := by decide +kernel
theorem dX5_pointing_46 : decode cX5_pointing 46 = .ok (.getfield 12, 3) := by decide +kernel
theorem dX5_pointing_49 : decode cX5_pointing 49 = .ok (.iload_n 3, 1) := by decide +kernel
theorem dX5_pointing_50 : decode cX5_pointing 50 = .ok (.iload 4, 2) := by decide +kernel
theorem dX5_pointing_52 : decode cX5_pointing 52 = .ok (.invokevirtual 105, 3) := by decide +kernel
theorem dX5_pointing_55 : decode cX5_pointing 55 = .ok (.istore 4, 2) := by decide +kernel
theorem dX5_pointing_57 : decode cX5_pointing 57 = .ok (.iinc 6 1, 3) := by decide +kernel
theorem dX5_pointing_60 : decode cX5_pointing 60 = .ok (.goto (-29), 3) := by decide +kernel
theorem dX5_pointing_63 : decode cX5_pointing 63 = .ok (.iload 4, 2) := by decide +kernel
theorem dX5_pointing_65 : decode cX5_pointing 65 = .ok (.ireturn, 1) := by decide +kernel
theorem dX5_turnsOf_0 : decode cX5_turnsOf 0 = .ok (.aload_n 0, 1) := by decide +kernel
theorem dX5_turnsOf_1 : decode cX5_turnsOf 1 = .ok (.getfield 56, 3) := by decide +kernel
theorem dX5_turnsOf_4 : decode cX5_turnsOf 4 = .ok (.iload_n 1, 1) := by decide +kernel
theorem dX5_turnsOf_5 : decode cX5_turnsOf 5 = .ok (.invokestatic 93, 3) := by decide +kernel
theorem dX5_turnsOf_8 : decode cX5_turnsOf 8 = .ok (.ifCond .eq 7, 3) := by decide +kernel
theorem dX5_turnsOf_11 : decode cX5_turnsOf 11 = .ok (.iconst 1, 1) := by decide +kernel
theorem dX5_turnsOf_12 : decode cX5_turnsOf 12 = .ok (.goto 4, 3) := by decide +kernel
theorem dX5_turnsOf_15 : decode cX5_turnsOf 15 = .ok (.iconst 0, 1) := by decide +kernel
theorem dX5_turnsOf_16 : decode cX5_turnsOf 16 = .ok (.istore_n 2, 1) := by decide +kernel
theorem dX5_turnsOf_17 : decode cX5_turnsOf 17 = .ok (.aload_n 0, 1) := by decide +kernel
theorem dX5_turnsOf_18 : decode cX5_turnsOf 18 = .ok (.getfield 23, 3) := by decide +kernel
theorem dX5_turnsOf_21 : decode cX5_turnsOf 21 = .ok (.iload_n 1, 1) := by decide +kernel
theorem dX5_turnsOf_22 : decode cX5_turnsOf 22 = .ok (.iconst 0, 1) := by decide +kernel
theorem dX5_turnsOf_23 : decode cX5_turnsOf 23 = .ok (.invokevirtual 89, 3) := by decide +kernel
theorem dX5_turnsOf_26 : decode cX5_turnsOf 26 = .ok (.tableswitch 70 1 3 #[26, 48, 52], 26) := by decide +kernel
theorem dX5_turnsOf_52 : decode cX5_turnsOf 52 = .ok (.iload_n 2, 1) := by decide +kernel
theorem dX5_turnsOf_53 : decode cX5_turnsOf 53 = .ok (.aload_n 0, 1) := by decide +kernel
theorem dX5_turnsOf_54 : decode cX5_turnsOf 54 = .ok (.getfield 23, 3) := by decide +kernel
theorem dX5_turnsOf_57 : decode cX5_turnsOf 57 = .ok (.iload_n 1, 1) := by decide +kernel
theorem dX5_turnsOf_58 : decode cX5_turnsOf 58 = .ok (.iconst 2, 1) := by decide +kernel
theorem dX5_turnsOf_59 : decode cX5_turnsOf 59 = .ok (.invokevirtual 89, 3) := by decide +kernel
theorem dX5_turnsOf_62 : decode cX5_turnsOf 62 = .ok (.bipush 40, 2) := by decide +kernel
theorem dX5_turnsOf_64 : decode cX5_turnsOf 64 = .ok (.if_icmp .lt 7, 3) := by decide +kernel
theorem dX5_turnsOf_67 : decode cX5_turnsOf 67 = .ok (.iconst 1, 1) := by decide +kernel
theorem dX5_turnsOf_68 : decode cX5_turnsOf 68 = .ok (.goto 4, 3) := by decide +kernel
theorem dX5_turnsOf_71 : decode cX5_turnsOf 71 = .ok (.iconst 0, 1) := by decide +kernel
theorem dX5_turnsOf_72 : decode cX5_turnsOf 72 = .ok (.iadd, 1) := by decide +kernel
theorem dX5_turnsOf_73 : decode cX5_turnsOf 73 = .ok (.ireturn, 1) := by decide +kernel
theorem dX5_turnsOf_74 : decode cX5_turnsOf 74 = .ok (.iload_n 2, 1) := by decide +kernel
theorem dX5_turnsOf_75 : decode cX5_turnsOf 75 = .ok (.iconst 1, 1) := by decide +kernel
theorem dX5_turnsOf_76 : decode cX5_turnsOf 76 = .ok (.iadd, 1) := by decide +kernel
theorem dX5_turnsOf_77 : decode cX5_turnsOf 77 = .ok (.ireturn, 1) := by decide +kernel
theorem dX5_turnsOf_78 : decode cX5_turnsOf 78 = .ok (.iload_n 2, 1) := by decide +kernel
theorem dX5_turnsOf_79 : decode cX5_turnsOf 79 = .ok (.aload_n 0, 1) := by decide +kernel
theorem dX5_turnsOf_80 : decode cX5_turnsOf 80 = .ok (.getfield 50, 3) := by decide +kernel
theorem dX5_turnsOf_83 : decode cX5_turnsOf 83 = .ok (.iconst 2, 1) := by decide +kernel
theorem dX5_turnsOf_84 : decode cX5_turnsOf 84 = .ok (.irem, 1) := by decide +kernel
theorem dX5_turnsOf_85 : decode cX5_turnsOf 85 = .ok (.iconst 1, 1) := by decide +kernel
theorem dX5_turnsOf_86 : decode cX5_turnsOf 86 = .ok (.if_icmp .ne 7, 3) := by decide +kernel
theorem dX5_turnsOf_89 : decode cX5_turnsOf 89 = .ok (.iconst 2, 1) := by decide +kernel
theorem dX5_turnsOf_90 : decode cX5_turnsOf 90 = .ok (.goto 4, 3) := by decide +kernel
theorem dX5_turnsOf_93 : decode cX5_turnsOf 93 = .ok (.iconst 0, 1) := by decide +kernel
theorem dX5_turnsOf_94 : decode cX5_turnsOf 94 = .ok (.iadd, 1) := by decide +kernel
theorem dX5_turnsOf_95 : decode cX5_turnsOf 95 = .ok (.ireturn, 1) := by decide +kernel
theorem dX5_turnsOf_96 : decode cX5_turnsOf 96 = .ok (.iload_n 2, 1) := by decide +kernel
theorem dX5_turnsOf_97 : decode cX5_turnsOf 97 = .ok (.ireturn, 1) := by decide +kernel
theorem dX5_passHours_0 : decode cX5_passHours 0 = .ok (.iconst 0, 1) := by decide +kernel
theorem dX5_passHours_1 : decode cX5_passHours 1 = .ok (.istore_n 2, 1) := by decide +kernel
theorem dX5_passHours_2 : decode cX5_passHours 2 = .ok (.iload_n 2, 1) := by decide +kernel
theorem dX5_passHours_3 : decode cX5_passHours 3 = .ok (.iload_n 1, 1) := by decide +kernel
theorem dX5_passHours_4 : decode cX5_passHours 4 = .ok (.if_icmp .ge 81, 3) := by decide +kernel
theorem dX5_passHours_7 : decode cX5_passHours 7 = .ok (.iconst 0, 1) := by decide +kernel
theorem dX5_passHours_8 : decode cX5_passHours 8 = .ok (.istore_n 3, 1) := by decide +kernel
theorem dX5_passHours_9 : decode cX5_passHours 9 = .ok (.iload_n 3, 1) := by decide +kernel
theorem dX5_passHours_10 : decode cX5_passHours 10 = .ok (.aload_n 0, 1) := by decide +kernel
theorem dX5_passHours_11 : decode cX5_passHours 11 = .ok (.getfield 47, 3) := by decide +kernel
theorem dX5_passHours_14 : decode cX5_passHours 14 = .ok (.if_icmp .ge 55, 3) := by decide +kernel
theorem dX5_passHours_17 : decode cX5_passHours 17 = .ok (.aload_n 0, 1) := by decide +kernel
theorem dX5_passHours_18 : decode cX5_passHours 18 = .ok (.getfield 33, 3) := by decide +kernel
theorem dX5_passHours_21 : decode cX5_passHours 21 = .ok (.iload_n 3, 1) := by decide +kernel
theorem dX5_passHours_22 : decode cX5_passHours 22 = .ok (.iconst 0, 1) := by decide +kernel
theorem dX5_passHours_23 : decode cX5_passHours 23 = .ok (.invokevirtual 89, 3) := by decide +kernel
theorem dX5_passHours_26 : decode cX5_passHours 26 = .ok (.istore 4, 2) := by decide +kernel
theorem dX5_passHours_28 : decode cX5_passHours 28 = .ok (.aload_n 0, 1) := by decide +kernel
theorem dX5_passHours_29 : decode cX5_passHours 29 = .ok (.getfield 33, 3) := by decide +kernel
theorem dX5_passHours_32 : decode cX5_passHours 32 = .ok (.iload_n 3, 1) := by decide +kernel
theorem dX5_passHours_33 : decode cX5_passHours 33 = .ok (.iconst 1, 1) := by decide +kernel
theorem dX5_passHours_34 : decode cX5_passHours 34 = .ok (.invokevirtual 89, 3) := by decide +kernel
theorem dX5_passHours_37 : decode cX5_passHours 37 = .ok (.istore 5, 2) := by decide +kernel
theorem dX5_passHours_39 : decode cX5_passHours 39 = .ok (.iload 4, 2) := by decide +kernel
theorem dX5_passHours_41 : decode cX5_passHours 41 = .ok (.iload 5, 2) := by decide +kernel
theorem dX5_passHours_43 : decode cX5_passHours 43 = .ok (.if_icmp .eq 20, 3) := by decide +kernel
theorem dX5_passHours_46 : decode cX5_passHours 46 = .ok (.aload_n 0, 1) := by decide +kernel
theorem dX5_passHours_47 : decode cX5_passHours 47 = .ok (.getfield 33, 3) := by decide +kernel
theorem dX5_passHours_50 : decode cX5_passHours 50 = .ok (.iload_n 3, 1) := by decide +kernel
theorem dX5_passHours_51 : decode cX5_passHours 51 = .ok (.iconst 0, 1) := by decide +kernel
theorem dX5_passHours_52 : decode cX5_passHours 52 = .ok (.aload_n 0, 1) := by decide +kernel
theorem dX5_passHours_53 : decode cX5_passHours 53 = .ok (.iload 4, 2) := by decide +kernel
theorem dX5_passHours_55 : decode cX5_passHours 55 = .ok (.iload 5, 2) := by decide +kernel
theorem dX5_passHours_57 : decode cX5_passHours 57 = .ok (.invokevirtual 108, 3) := by decide +kernel
theorem dX5_passHours_60 : decode cX5_passHours 60 = .ok (.invokevirtual 75, 3) := by decide +kernel
theorem dX5_passHours_63 : decode cX5_passHours 63 = .ok (.iinc 3 1, 3) := by decide +kernel
theorem dX5_passHours_66 : decode cX5_passHours 66 = .ok (.goto (-57), 3) := by decide +kernel
theorem dX5_passHours_69 : decode cX5_passHours 69 = .ok (.aload_n 0, 1) := by decide +kernel
theorem dX5_passHours_70 : decode cX5_passHours 70 = .ok (.dup, 1) := by decide +kernel
theorem dX5_passHours_71 : decode cX5_passHours 71 = .ok (.getfield 50, 3) := by decide +kernel
theorem dX5_passHours_74 : decode cX5_passHours 74 = .ok (.iconst 1, 1) := by decide +kernel
theorem dX5_passHours_75 : decode cX5_passHours 75 = .ok (.iadd, 1) := by decide +kernel
theorem dX5_passHours_76 : decode cX5_passHours 76 = .ok (.putfield 50, 3) := by decide +kernel
theorem dX5_passHours_79 : decode cX5_passHours 79 = .ok (.iinc 2 1, 3) := by decide +kernel
theorem dX5_passHours_82 : decode cX5_passHours 82 = .ok (.goto (-80), 3) := by decide +kernel
theorem dX5_passHours_85 : decode cX5_passHours 85 = .ok (.return_, 1) := by decide +kernel
theorem dX5_stepFrom_0 : decode cX5_stepFrom 0 = .ok (.aload_n 0, 1) := by decide +kernel
theorem dX5_stepFrom_1 : decode cX5_stepFrom 1 = .ok (.iload_n 1, 1) := by decide +kernel
theorem dX5_stepFrom_2 : decode cX5_stepFrom 2 = .ok (.invokevirtual 111, 3) := by decide +kernel
theorem dX5_stepFrom_5 : decode cX5_stepFrom 5 = .ok (.istore_n 3, 1) := by decide +kernel
theorem dX5_stepFrom_6 : decode cX5_stepFrom 6 = .ok (.iload_n 3, 1) := by decide +kernel
theorem dX5_stepFrom_7 : decode cX5_stepFrom 7 = .ok (.bipush (-4), 2) := by decide +kernel
theorem dX5_stepFrom_9 : decode cX5_stepFrom 9 = .ok (.if_icmp .ne 14, 3) := by decide +kernel
theorem dX5_stepFrom_12 : decode cX5_stepFrom 12 = .ok (.aload_n 0, 1) := by decide +kernel
theorem dX5_stepFrom_13 : decode cX5_stepFrom 13 = .ok (.getfield 12, 3) := by decide +kernel
theorem dX5_stepFrom_16 : decode cX5_stepFrom 16 = .ok (.iload_n 1, 1) := by decide +kernel
theorem dX5_stepFrom_17 : decode cX5_stepFrom 17 = .ok (.invokevirtual 114, 3) := by decide +kernel
theorem dX5_stepFrom_20 : decode cX5_stepFrom 20 = .ok (.goto 9, 3) := by decide +kernel
theorem dX5_stepFrom_23 : decode cX5_stepFrom 23 = .ok (.aload_n 0, 1) := by decide +kernel
theorem dX5_stepFrom_24 : decode cX5_stepFrom 24 = .ok (.iload_n 3, 1) := by decide +kernel
theorem dX5_stepFrom_25 : decode cX5_stepFrom 25 = .ok (.iload_n 2, 1) := by decide +kernel
theorem dX5_stepFrom_26 : decode cX5_stepFrom 26 = .ok (.invokevirtual 117, 3) := by decide +kernel
theorem dX5_stepFrom_29 : decode cX5_stepFrom 29 = .ok (.istore 4, 2) := by decide +kernel
theorem dX5_stepFrom_31 : decode cX5_stepFrom 31 = .ok (.iload 4, 2) := by decide +kernel
theorem dX5_stepFrom_33 : decode cX5_stepFrom 33 = .ok (.bipush (-4), 2) := by decide +kernel
theorem dX5_stepFrom_35 : decode cX5_stepFrom 35 = .ok (.if_icmp .eq 21, 3) := by decide +kernel
theorem dX5_stepFrom_38 : decode cX5_stepFrom 38 = .ok (.aload_n 0, 1) := by decide +kernel
theorem dX5_stepFrom_39 : decode cX5_stepFrom 39 = .ok (.getfield 12, 3) := by decide +kernel
theorem dX5_stepFrom_42 : decode cX5_stepFrom 42 = .ok (.iload_n 1, 1) := by decide +kernel
theorem dX5_stepFrom_43 : decode cX5_stepFrom 43 = .ok (.iload 4, 2) := by decide +kernel
theorem dX5_stepFrom_45 : decode cX5_stepFrom 45 = .ok (.invokevirtual 120, 3) := by decide +kernel
theorem dX5_stepFrom_48 : decode cX5_stepFrom 48 = .ok (.ifCond .le 8, 3) := by decide +kernel
theorem dX5_stepFrom_51 : decode cX5_stepFrom 51 = .ok (.iload 4, 2) := by decide +kernel
theorem dX5_stepFrom_53 : decode cX5_stepFrom 53 = .ok (.goto 4, 3) := by decide +kernel
theorem dX5_stepFrom_56 : decode cX5_stepFrom 56 = .ok (.iload_n 1, 1) := by decide +kernel
theorem dX5_stepFrom_57 : decode cX5_stepFrom 57 = .ok (.ireturn, 1) := by decide +kernel
theorem dX5_passYear_0 : decode cX5_passYear 0 = .ok (.aload_n 0, 1) := by decide +kernel
theorem dX5_passYear_1 : decode cX5_passYear 1 = .ok (.dup, 1) := by decide +kernel
theorem dX5_passYear_2 : decode cX5_passYear 2 = .ok (.getfield 53, 3) := by decide +kernel
theorem dX5_passYear_5 : decode cX5_passYear 5 = .ok (.iconst 1, 1) := by decide +kernel
theorem dX5_passYear_6 : decode cX5_passYear 6 = .ok (.iadd, 1) := by decide +kernel
theorem dX5_passYear_7 : decode cX5_passYear 7 = .ok (.putfield 53, 3) := by decide +kernel
theorem dX5_passYear_10 : decode cX5_passYear 10 = .ok (.iconst 0, 1) := by decide +kernel
theorem dX5_passYear_11 : decode cX5_passYear 11 = .ok (.istore_n 1, 1) := by decide +kernel
theorem dX5_passYear_12 : decode cX5_passYear 12 = .ok (.iconst 0, 1) := by decide +kernel
theorem dX5_passYear_13 : decode cX5_passYear 13 = .ok (.istore_n 2, 1) := by decide +kernel
theorem dX5_passYear_14 : decode cX5_passYear 14 = .ok (.iload_n 2, 1) := by decide +kernel
theorem dX5_passYear_15 : decode cX5_passYear 15 = .ok (.aload_n 0, 1) := by decide +kernel
theorem dX5_passYear_16 : decode cX5_passYear 16 = .ok (.getfield 43, 3) := by decide +kernel
theorem dX5_passYear_19 : decode cX5_passYear 19 = .ok (.if_icmp .ge 53, 3) := by decide +kernel
theorem dX5_passYear_22 : decode cX5_passYear 22 = .ok (.aload_n 0, 1) := by decide +kernel
theorem dX5_passYear_23 : decode cX5_passYear 23 = .ok (.iload_n 2, 1) := by decide +kernel
theorem dX5_passYear_24 : decode cX5_passYear 24 = .ok (.invokevirtual 96, 3) := by decide +kernel
theorem dX5_passYear_27 : decode cX5_passYear 27 = .ok (.ifCond .ne 39, 3) := by decide +kernel
theorem dX5_passYear_30 : decode cX5_passYear 30 = .ok (.aload_n 0, 1) := by decide +kernel
theorem dX5_passYear_31 : decode cX5_passYear 31 = .ok (.getfield 23, 3) := by decide +kernel
theorem dX5_passYear_34 : decode cX5_passYear 34 = .ok (.iload_n 2, 1) := by decide +kernel
theorem dX5_passYear_35 : decode cX5_passYear 35 = .ok (.iconst 2, 1) := by decide +kernel
theorem dX5_passYear_36 : decode cX5_passYear 36 = .ok (.invokevirtual 89, 3) := by decide +kernel
theorem dX5_passYear_39 : decode cX5_passYear 39 = .ok (.iconst 1, 1) := by decide +kernel
theorem dX5_passYear_40 : decode cX5_passYear 40 = .ok (.iadd, 1) := by decide +kernel
theorem dX5_passYear_41 : decode cX5_passYear 41 = .ok (.istore_n 3, 1) := by decide +kernel
theorem dX5_passYear_42 : decode cX5_passYear 42 = .ok (.aload_n 0, 1) := by decide +kernel
theorem dX5_passYear_43 : decode cX5_passYear 43 = .ok (.getfield 23, 3) := by decide +kernel
theorem dX5_passYear_46 : decode cX5_passYear 46 = .ok (.iload_n 2, 1) := by decide +kernel
theorem dX5_passYear_47 : decode cX5_passYear 47 = .ok (.iconst 2, 1) := by decide +kernel
theorem dX5_passYear_48 : decode cX5_passYear 48 = .ok (.iload_n 3, 1) := by decide +kernel
theorem dX5_passYear_49 : decode cX5_passYear 49 = .ok (.invokevirtual 75, 3) := by decide +kernel
theorem dX5_passYear_52 : decode cX5_passYear 52 = .ok (.iload_n 3, 1) := by decide +kernel
theorem dX5_passYear_53 : decode cX5_passYear 53 = .ok (.bipush 60, 2) := by decide +kernel
theorem dX5_passYear_55 : decode cX5_passYear 55 = .ok (.if_icmp .lt 11, 3) := by decide +kernel
theorem dX5_passYear_58 : decode cX5_passYear 58 = .ok (.aload_n 0, 1) := by decide +kernel
theorem dX5_passYear_59 : decode cX5_passYear 59 = .ok (.iload_n 2, 1) := by decide +kernel
theorem dX5_passYear_60 : decode cX5_passYear 60 = .ok (.invokevirtual 123, 3) := by decide +kernel
theorem dX5_passYear_63 : decode cX5_passYear 63 = .ok (.iinc 1 1, 3) := by decide +kernel
theorem dX5_passYear_66 : decode cX5_passYear 66 = .ok (.iinc 2 1, 3) := by decide +kernel
theorem dX5_passYear_69 : decode cX5_passYear 69 = .ok (.goto (-55), 3) := by decide +kernel
theorem dX5_passYear_72 : decode cX5_passYear 72 = .ok (.iload_n 1, 1) := by decide +kernel
theorem dX5_passYear_73 : decode cX5_passYear 73 = .ok (.ireturn, 1) := by decide +kernel
theorem dX5_paintPost_0 : decode cX5_paintPost 0 = .ok (.aload_n 0, 1) := by decide +kernel
theorem dX5_paintPost_1 : decode cX5_paintPost 1 = .ok (.getfield 23, 3) := by decide +kernel
theorem dX5_paintPost_4 : decode cX5_paintPost 4 = .ok (.iload_n 1, 1) := by decide +kernel
theorem dX5_paintPost_5 : decode cX5_paintPost 5 = .ok (.iconst 1, 1) := by decide +kernel
theorem dX5_paintPost_6 : decode cX5_paintPost 6 = .ok (.invokevirtual 89, 3) := by decide +kernel
theorem dX5_paintPost_9 : decode cX5_paintPost 9 = .ok (.istore_n 2, 1) := by decide +kernel
theorem dX5_paintPost_10 : decode cX5_paintPost 10 = .ok (.iconst 0, 1) := by decide +kernel
theorem dX5_paintPost_11 : decode cX5_paintPost 11 = .ok (.istore_n 3, 1) := by decide +kernel
theorem dX5_paintPost_12 : decode cX5_paintPost 12 = .ok (.iconst 0, 1) := by decide +kernel
theorem dX5_paintPost_13 : decode cX5_paintPost 13 = .ok (.istore 4, 2) := by decide +kernel
theorem dX5_paintPost_15 : decode cX5_paintPost 15 = .ok (.iload 4, 2) := by decide +kernel
theorem dX5_paintPost_17 : decode cX5_paintPost 17 = .ok (.bipush 8, 2) := by decide +kernel
theorem dX5_paintPost_19 : decode cX5_paintPost 19 = .ok (.if_icmp .ge 89, 3) := by decide +kernel
theorem dX5_paintPost_22 : decode cX5_paintPost 22 = .ok (.aload_n 0, 1) := by decide +kernel
theorem dX5_paintPost_23 : decode cX5_paintPost 23 = .ok (.iload 4, 2) := by decide +kernel
theorem dX5_paintPost_25 : decode cX5_paintPost 25 = .ok (.invokevirtual 71, 3) := by decide +kernel
theorem dX5_paintPost_28 : decode cX5_paintPost 28 = .ok (.ifCond .eq 16, 3) := by decide +kernel
theorem dX5_paintPost_31 : decode cX5_paintPost 31 = .ok (.aload_n 0, 1) := by decide +kernel
theorem dX5_paintPost_32 : decode cX5_paintPost 32 = .ok (.getfield 12, 3) := by decide +kernel
theorem dX5_paintPost_35 : decode cX5_paintPost 35 = .ok (.iload_n 2, 1) := by decide +kernel
theorem dX5_paintPost_36 : decode cX5_paintPost 36 = .ok (.iload 4, 2) := by decide +kernel
theorem dX5_paintPost_38 : decode cX5_paintPost 38 = .ok (.invokevirtual 126, 3) := by decide +kernel
theorem dX5_paintPost_41 : decode cX5_paintPost 41 = .ok (.goto 5, 3) := by decide +kernel
theorem dX5_paintPost_44 : decode cX5_paintPost 44 = .ok (.bipush (-4), 2) := by decide +kernel
theorem dX5_paintPost_46 : decode cX5_paintPost 46 = .ok (.istore 5, 2) := by decide +kernel
theorem dX5_paintPost_48 : decode cX5_paintPost 48 = .ok (.aload_n 0, 1) := by decide +kernel
theorem dX5_paintPost_49 : decode cX5_paintPost 49 = .ok (.getfield 27, 3) := by decide +kernel
theorem dX5_paintPost_52 : decode cX5_paintPost 52 = .ok (.iload_n 1, 1) := by decide +kernel
theorem dX5_paintPost_53 : decode cX5_paintPost 53 = .ok (.iload 4, 2) := by decide +kernel
theorem dX5_paintPost_55 : decode cX5_paintPost 55 = .ok (.iload 5, 2) := by decide +kernel
theorem dX5_paintPost_57 : decode cX5_paintPost 57 = .ok (.invokevirtual 75, 3) := by decide +kernel
theorem dX5_paintPost_60 : decode cX5_paintPost 60 = .ok (.aload_n 0, 1) := by decide +kernel
theorem dX5_paintPost_61 : decode cX5_paintPost 61 = .ok (.getfield 30, 3) := by decide +kernel
theorem dX5_paintPost_64 : decode cX5_paintPost 64 = .ok (.iload_n 1, 1) := by decide +kernel
theorem dX5_paintPost_65 : decode cX5_paintPost 65 = .ok (.iload 4, 2) := by decide +kernel
theorem dX5_paintPost_67 : decode cX5_paintPost 67 = .ok (.iload 5, 2) := by decide +kernel
theorem dX5_paintPost_69 : decode cX5_paintPost 69 = .ok (.bipush (-4), 2) := by decide +kernel
theorem dX5_paintPost_71 : decode cX5_paintPost 71 = .ok (.if_icmp .ne 8, 3) := by decide +kernel
theorem dX5_paintPost_74 : decode cX5_paintPost 74 = .ok (.bipush (-4), 2) := by decide +kernel
theorem dX5_paintPost_76 : decode cX5_paintPost 76 = .ok (.goto 13, 3) := by decide +kernel
theorem dX5_paintPost_79 : decode cX5_paintPost 79 = .ok (.aload_n 0, 1) := by decide +kernel
theorem dX5_paintPost_80 : decode cX5_paintPost 80 = .ok (.getfield 12, 3) := by decide +kernel
theorem dX5_paintPost_83 : decode cX5_paintPost 83 = .ok (.iload_n 2, 1) := by decide +kernel
theorem dX5_paintPost_84 : decode cX5_paintPost 84 = .ok (.iload 4, 2) := by decide +kernel
theorem dX5_paintPost_86 : decode cX5_paintPost 86 = .ok (.invokevirtual 129, 3) := by decide +kernel
theorem dX5_paintPost_89 : decode cX5_paintPost 89 = .ok (.invokevirtual 75, 3) := by decide +kernel
theorem dX5_paintPost_92 : decode cX5_paintPost 92 = .ok (.iload 5, 2) := by decide +kernel
theorem dX5_paintPost_94 : decode cX5_paintPost 94 = .ok (.bipush (-4), 2) := by decide +kernel
theorem dX5_paintPost_96 : decode cX5_paintPost 96 = .ok (.if_icmp .eq 6, 3) := by decide +kernel
theorem dX5_paintPost_99 : decode cX5_paintPost 99 = .ok (.iinc 3 1, 3) := by decide +kernel
theorem dX5_paintPost_102 : decode cX5_paintPost 102 = .ok (.iinc 4 1, 3) := by decide +kernel
theorem dX5_paintPost_105 : decode cX5_paintPost 105 = .ok (.goto (-90), 3) := by decide +kernel
theorem dX5_paintPost_108 : decode cX5_paintPost 108 = .ok (.iload_n 3, 1) := by decide +kernel
theorem dX5_paintPost_109 : decode cX5_paintPost 109 = .ok (.ireturn, 1) := by decide +kernel
theorem dX5_movePost_0 : decode cX5_movePost 0 = .ok (.aload_n 0, 1) := by decide +kernel
theorem dX5_movePost_1 : decode cX5_movePost 1 = .ok (.getfield 23, 3) := by decide +kernel
theorem dX5_movePost_4 : decode cX5_movePost 4 = .ok (.iload_n 1, 1) := by decide +kernel
theorem dX5_movePost_5 : decode cX5_movePost 5 = .ok (.iconst 1, 1) := by decide +kernel
theorem dX5_movePost_6 : decode cX5_movePost 6 = .ok (.iload_n 2, 1) := by decide +kernel
theorem dX5_movePost_7 : decode cX5_movePost 7 = .ok (.invokevirtual 75, 3) := by decide +kernel
theorem dX5_movePost_10 : decode cX5_movePost 10 = .ok (.return_, 1) := by decide +kernel
theorem dX5_retirePost_0 : decode cX5_retirePost 0 = .ok (.aload_n 0, 1) := by decide +kernel
theorem dX5_retirePost_1 : decode cX5_retirePost 1 = .ok (.getfield 23, 3) := by decide +kernel
theorem dX5_retirePost_4 : decode cX5_retirePost 4 = .ok (.iload_n 1, 1) := by decide +kernel
theorem dX5_retirePost_5 : decode cX5_retirePost 5 = .ok (.iconst 1, 1) := by decide +kernel
theorem dX5_retirePost_6 : decode cX5_retirePost 6 = .ok (.bipush (-4), 2) := by decide +kernel
theorem dX5_retirePost_8 : decode cX5_retirePost 8 = .ok (.invokevirtual 75, 3) := by decide +kernel
theorem dX5_retirePost_11 : decode cX5_retirePost 11 = .ok (.iconst 0, 1) := by decide +kernel
theorem dX5_retirePost_12 : decode cX5_retirePost 12 = .ok (.istore_n 2, 1) := by decide +kernel
theorem dX5_retirePost_13 : decode cX5_retirePost 13 = .ok (.iload_n 2, 1) := by decide +kernel
theorem dX5_retirePost_14 : decode cX5_retirePost 14 = .ok (.bipush 8, 2) := by decide +kernel
theorem dX5_retirePost_16 : decode cX5_retirePost 16 = .ok (.if_icmp .ge 31, 3) := by decide +kernel
theorem dX5_retirePost_19 : decode cX5_retirePost 19 = .ok (.aload_n 0, 1) := by decide +kernel
theorem dX5_retirePost_20 : decode cX5_retirePost 20 = .ok (.getfield 27, 3) := by decide +kernel
theorem dX5_retirePost_23 : decode cX5_retirePost 23 = .ok (.iload_n 1, 1) := by decide +kernel
theorem dX5_retirePost_24 : decode cX5_retirePost 24 = .ok (.iload_n 2, 1) := by decide +kernel
theorem dX5_retirePost_25 : decode cX5_retirePost 25 = .ok (.bipush (-4), 2) := by decide +kernel
theorem dX5_retirePost_27 : decode cX5_retirePost 27 = .ok (.invokevirtual 75, 3) := by decide +kernel
theorem dX5_retirePost_30 : decode cX5_retirePost 30 = .ok (.aload_n 0, 1) := by decide +kernel
theorem dX5_retirePost_31 : decode cX5_retirePost 31 = .ok (.getfield 30, 3) := by decide +kernel
theorem dX5_retirePost_34 : decode cX5_retirePost 34 = .ok (.iload_n 1, 1) := by decide +kernel
theorem dX5_retirePost_35 : decode cX5_retirePost 35 = .ok (.iload_n 2, 1) := by decide +kernel
theorem dX5_retirePost_36 : decode cX5_retirePost 36 = .ok (.bipush (-4), 2) := by decide +kernel
theorem dX5_retirePost_38 : decode cX5_retirePost 38 = .ok (.invokevirtual 75, 3) := by decide +kernel
theorem dX5_retirePost_41 : decode cX5_retirePost 41 = .ok (.iinc 2 1, 3) := by decide +kernel
theorem dX5_retirePost_44 : decode cX5_retirePost 44 = .ok (.goto (-31), 3) := by decide +kernel
theorem dX5_retirePost_47 : decode cX5_retirePost 47 = .ok (.return_, 1) := by decide +kernel
theorem dX5_turnInto_0 : decode cX5_turnInto 0 = .ok (.aload_n 0, 1) := by decide +kernel
theorem dX5_turnInto_1 : decode cX5_turnInto 1 = .ok (.getfield 23, 3) := by decide +kernel
theorem dX5_turnInto_4 : decode cX5_turnInto 4 = .ok (.iload_n 1, 1) := by decide +kernel
theorem dX5_turnInto_5 : decode cX5_turnInto 5 = .ok (.iconst 0, 1) := by decide +kernel
theorem dX5_turnInto_6 : decode cX5_turnInto 6 = .ok (.iload_n 2, 1) := by decide +kernel
theorem dX5_turnInto_7 : decode cX5_turnInto 7 = .ok (.invokevirtual 75, 3) := by decide +kernel
theorem dX5_turnInto_10 : decode cX5_turnInto 10 = .ok (.return_, 1) := by decide +kernel
theorem dX5_twist_0 : decode cX5_twist 0 = .ok (.aload_n 0, 1) := by decide +kernel
theorem dX5_twist_1 : decode cX5_twist 1 = .ok (.iload_n 1, 1) := by decide +kernel
theorem dX5_twist_2 : decode cX5_twist 2 = .ok (.putfield 56, 3) := by decide +kernel
theorem dX5_twist_5 : decode cX5_twist 5 = .ok (.return_, 1) := by decide +kernel
theorem dX5_dropPosts_0 : decode cX5_dropPosts 0 = .ok (.aload_n 0, 1) := by decide +kernel
theorem dX5_dropPosts_1 : decode cX5_dropPosts 1 = .ok (.iconst 0, 1) := by decide +kernel
theorem dX5_dropPosts_2 : decode cX5_dropPosts 2 = .ok (.putfield 43, 3) := by decide +kernel
theorem dX5_dropPosts_5 : decode cX5_dropPosts 5 = .ok (.return_, 1) := by decide +kernel
theorem dX5_standPlain_0 : decode cX5_standPlain 0 = .ok (.aload_n 0, 1) := by decide +kernel
theorem dX5_standPlain_1 : decode cX5_standPlain 1 = .ok (.getfield 43, 3) := by decide +kernel
theorem dX5_standPlain_4 : decode cX5_standPlain 4 = .ok (.bipush 8, 2) := by decide +kernel
theorem dX5_standPlain_6 : decode cX5_standPlain 6 = .ok (.if_icmp .ge 61, 3) := by decide +kernel
theorem dX5_standPlain_9 : decode cX5_standPlain 9 = .ok (.aload_n 0, 1) := by decide +kernel
theorem dX5_standPlain_10 : decode cX5_standPlain 10 = .ok (.getfield 23, 3) := by decide +kernel
theorem dX5_standPlain_13 : decode cX5_standPlain 13 = .ok (.aload_n 0, 1) := by decide +kernel
theorem dX5_standPlain_14 : decode cX5_standPlain 14 = .ok (.getfield 43, 3) := by decide +kernel
theorem dX5_standPlain_17 : decode cX5_standPlain 17 = .ok (.iconst 0, 1) := by decide +kernel
theorem dX5_standPlain_18 : decode cX5_standPlain 18 = .ok (.iconst 0, 1) := by decide +kernel
theorem dX5_standPlain_19 : decode cX5_standPlain 19 = .ok (.invokevirtual 75, 3) := by decide +kernel
theorem dX5_standPlain_22 : decode cX5_standPlain 22 = .ok (.aload_n 0, 1) := by decide +kernel
theorem dX5_standPlain_23 : decode cX5_standPlain 23 = .ok (.getfield 23, 3) := by decide +kernel
theorem dX5_standPlain_26 : decode cX5_standPlain 26 = .ok (.aload_n 0, 1) := by decide +kernel
theorem dX5_standPlain_27 : decode cX5_standPlain 27 = .ok (.getfield 43, 3) := by decide +kernel
theorem dX5_standPlain_30 : decode cX5_standPlain 30 = .ok (.iconst 1, 1) := by decide +kernel
theorem dX5_standPlain_31 : decode cX5_standPlain 31 = .ok (.iload_n 1, 1) := by decide +kernel
theorem dX5_standPlain_32 : decode cX5_standPlain 32 = .ok (.invokevirtual 75, 3) := by decide +kernel
theorem dX5_standPlain_35 : decode cX5_standPlain 35 = .ok (.aload_n 0, 1) := by decide +kernel
theorem dX5_standPlain_36 : decode cX5_standPlain 36 = .ok (.getfield 23, 3) := by decide +kernel
theorem dX5_standPlain_39 : decode cX5_standPlain 39 = .ok (.aload_n 0, 1) := by decide +kernel
theorem dX5_standPlain_40 : decode cX5_standPlain 40 = .ok (.getfield 43, 3) := by decide +kernel
theorem dX5_standPlain_43 : decode cX5_standPlain 43 = .ok (.iconst 2, 1) := by decide +kernel
theorem dX5_standPlain_44 : decode cX5_standPlain 44 = .ok (.iconst 0, 1) := by decide +kernel
theorem dX5_standPlain_45 : decode cX5_standPlain 45 = .ok (.invokevirtual 75, 3) := by decide +kernel
theorem dX5_standPlain_48 : decode cX5_standPlain 48 = .ok (.aload_n 0, 1) := by decide +kernel
theorem dX5_standPlain_49 : decode cX5_standPlain 49 = .ok (.aload_n 0, 1) := by decide +kernel
theorem dX5_standPlain_50 : decode cX5_standPlain 50 = .ok (.getfield 43, 3) := by decide +kernel
theorem dX5_standPlain_53 : decode cX5_standPlain 53 = .ok (.invokevirtual 81, 3) := by decide +kernel
theorem dX5_standPlain_56 : decode cX5_standPlain 56 = .ok (.pop, 1) := by decide +kernel
theorem dX5_standPlain_57 : decode cX5_standPlain 57 = .ok (.aload_n 0, 1) := by decide +kernel
theorem dX5_standPlain_58 : decode cX5_standPlain 58 = .ok (.dup, 1) := by decide +kernel
theorem dX5_standPlain_59 : decode cX5_standPlain 59 = .ok (.getfield 43, 3) := by decide +kernel
theorem dX5_standPlain_62 : decode cX5_standPlain 62 = .ok (.iconst 1, 1) := by decide +kernel
theorem dX5_standPlain_63 : decode cX5_standPlain 63 = .ok (.iadd, 1) := by decide +kernel
theorem dX5_standPlain_64 : decode cX5_standPlain 64 = .ok (.putfield 43, 3) := by decide +kernel
theorem dX5_standPlain_67 : decode cX5_standPlain 67 = .ok (.return_, 1) := by decide +kernel
theorem dX6_init_0 : decode cX6_init 0 = .ok (.aload_n 0, 1) := by decide +kernel
theorem dX6_init_1 : decode cX6_init 1 = .ok (.invokespecial 1, 3) := by decide +kernel
theorem dX6_init_4 : decode cX6_init 4 = .ok (.aload_n 0, 1) := by decide +kernel
theorem dX6_init_5 : decode cX6_init 5 = .ok (.new 7, 3) := by decide +kernel
theorem dX6_init_8 : decode cX6_init 8 = .ok (.dup, 1) := by decide +kernel
theorem dX6_init_9 : decode cX6_init 9 = .ok (.invokespecial 9, 3) := by decide +kernel
theorem dX6_init_12 : decode cX6_init 12 = .ok (.putfield 10, 3) := by decide +kernel
theorem dX6_init_15 : decode cX6_init 15 = .ok (.aload_n 0, 1) := by decide +kernel
theorem dX6_init_16 : decode cX6_init 16 = .ok (.new 16, 3) := by decide +kernel
theorem dX6_init_19 : decode cX6_init 19 = .ok (.dup, 1) := by decide +kernel
theorem dX6_init_20 : decode cX6_init 20 = .ok (.invokespecial 18, 3) := by decide +kernel
theorem dX6_init_23 : decode cX6_init 23 = .ok (.putfield 19, 3) := by decide +kernel
theorem dX6_init_26 : decode cX6_init 26 = .ok (.aload_n 0, 1) := by decide +kernel
theorem dX6_init_27 : decode cX6_init 27 = .ok (.new 16, 3) := by decide +kernel
theorem dX6_init_30 : decode cX6_init 30 = .ok (.dup, 1) := by decide +kernel
theorem dX6_init_31 : decode cX6_init 31 = .ok (.invokespecial 18, 3) := by decide +kernel
theorem dX6_init_34 : decode cX6_init 34 = .ok (.putfield 23, 3) := by decide +kernel
theorem dX6_init_37 : decode cX6_init 37 = .ok (.aload_n 0, 1) := by decide +kernel
theorem dX6_init_38 : decode cX6_init 38 = .ok (.new 26, 3) := by decide +kernel
theorem dX6_init_41 : decode cX6_init 41 = .ok (.dup, 1) := by decide +kernel
theorem dX6_init_42 : decode cX6_init 42 = .ok (.bipush 8, 2) := by decide +kernel
theorem dX6_init_44 : decode cX6_init 44 = .ok (.invokespecial 28, 3) := by decide +kernel
theorem dX6_init_47 : decode cX6_init 47 = .ok (.putfield 31, 3) := by decide +kernel
theorem dX6_init_50 : decode cX6_init 50 = .ok (.aload_n 0, 1) := by decide +kernel
theorem dX6_init_51 : decode cX6_init 51 = .ok (.new 26, 3) := by decide +kernel
theorem dX6_init_54 : decode cX6_init 54 = .ok (.dup, 1) := by decide +kernel
theorem dX6_init_55 : decode cX6_init 55 = .ok (.iconst 2, 1) := by decide +kernel
theorem dX6_init_56 : decode cX6_init 56 = .ok (.invokespecial 28, 3) := by decide +kernel
theorem dX6_init_59 : decode cX6_init 59 = .ok (.putfield 35, 3) := by decide +kernel
theorem dX6_init_62 : decode cX6_init 62 = .ok (.aload_n 0, 1) := by decide +kernel
theorem dX6_init_63 : decode cX6_init 63 = .ok (.new 38, 3) := by decide +kernel
theorem dX6_init_66 : decode cX6_init 66 = .ok (.dup, 1) := by decide +kernel
theorem dX6_init_67 : decode cX6_init 67 = .ok (.invokespecial 40, 3) := by decide +kernel
theorem dX6_init_70 : decode cX6_init 70 = .ok (.putfield 41, 3) := by decide +kernel
theorem dX6_init_73 : decode cX6_init 73 = .ok (.aload_n 0, 1) := by decide +kernel
theorem dX6_init_74 : decode cX6_init 74 = .ok (.new 38, 3) := by decide +kernel
theorem dX6_init_77 : decode cX6_init 77 = .ok (.dup, 1) := by decide +kernel
theorem dX6_init_78 : decode cX6_init 78 = .ok (.invokespecial 40, 3) := by decide +kernel
theorem dX6_init_81 : decode cX6_init 81 = .ok (.putfield 45, 3) := by decide +kernel
theorem dX6_init_84 : decode cX6_init 84 = .ok (.iconst 0, 1) := by decide +kernel
theorem dX6_init_85 : decode cX6_init 85 = .ok (.istore_n 1, 1) := by decide +kernel
theorem dX6_init_86 : decode cX6_init 86 = .ok (.iload_n 1, 1) := by decide +kernel
theorem dX6_init_87 : decode cX6_init 87 = .ok (.ldc 48, 2) := by decide +kernel
theorem dX6_init_89 : decode cX6_init 89 = .ok (.invokevirtual 50, 3) := by decide +kernel
theorem dX6_init_92 : decode cX6_init 92 = .ok (.if_icmp .ge 23, 3) := by decide +kernel
theorem dX6_init_95 : decode cX6_init 95 = .ok (.aload_n 0, 1) := by decide +kernel
theorem dX6_init_96 : decode cX6_init 96 = .ok (.getfield 10, 3) := by decide +kernel
theorem dX6_init_99 : decode cX6_init 99 = .ok (.ldc 48, 2) := by decide +kernel
theorem dX6_init_101 : decode cX6_init 101 = .ok (.iload_n 1, 1) := by decide +kernel
theorem dX6_init_102 : decode cX6_init 102 = .ok (.invokevirtual 56, 3) := by decide +kernel
theorem dX6_init_105 : decode cX6_init 105 = .ok (.invokevirtual 60, 3) := by decide +kernel
theorem dX6_init_108 : decode cX6_init 108 = .ok (.pop, 1) := by decide +kernel
theorem dX6_init_109 : decode cX6_init 109 = .ok (.iinc 1 1, 3) := by decide +kernel
theorem dX6_init_112 : decode cX6_init 112 = .ok (.goto (-26), 3) := by decide +kernel
theorem dX6_init_115 : decode cX6_init 115 = .ok (.aload_n 0, 1) := by decide +kernel
theorem dX6_init_116 : decode cX6_init 116 = .ok (.getfield 10, 3) := by decide +kernel
theorem dX6_init_119 : decode cX6_init 119 = .ok (.aload_n 0, 1) := by decide +kernel
theorem dX6_init_120 : decode cX6_init 120 = .ok (.getfield 19, 3) := by decide +kernel
theorem dX6_init_123 : decode cX6_init 123 = .ok (.invokevirtual 64, 3) := by decide +kernel
theorem dX6_init_126 : decode cX6_init 126 = .ok (.pop, 1) := by decide +kernel
theorem dX6_init_127 : decode cX6_init 127 = .ok (.aload_n 0, 1) := by decide +kernel
theorem dX6_init_128 : decode cX6_init 128 = .ok (.getfield 19, 3) := by decide +kernel
theorem dX6_init_131 : decode cX6_init 131 = .ok (.invokevirtual 68, 3) := by decide +kernel
theorem dX6_init_134 : decode cX6_init 134 = .ok (.aload_n 0, 1) := by decide +kernel
theorem dX6_init_135 : decode cX6_init 135 = .ok (.getfield 10, 3) := by decide +kernel
theorem dX6_init_138 : decode cX6_init 138 = .ok (.invokevirtual 71, 3) := by decide +kernel
theorem dX6_init_141 : decode cX6_init 141 = .ok (.pop, 1) := by decide +kernel
theorem dX6_init_142 : decode cX6_init 142 = .ok (.return_, 1) := by decide +kernel
theorem dX6_write_0 : decode cX6_write 0 = .ok (.iload_n 1, 1) := by decide +kernel
theorem dX6_write_1 : decode cX6_write 1 = .ok (.bipush 32, 2) := by decide +kernel
theorem dX6_write_3 : decode cX6_write 3 = .ok (.if_icmp .lt 9, 3) := by decide +kernel
theorem dX6_write_6 : decode cX6_write 6 = .ok (.iload_n 1, 1) := by decide +kernel
theorem dX6_write_7 : decode cX6_write 7 = .ok (.bipush 126, 2) := by decide +kernel
theorem dX6_write_9 : decode cX6_write 9 = .ok (.if_icmp .le 5, 3) := by decide +kernel
theorem dX6_write_12 : decode cX6_write 12 = .ok (.iconst (-1), 1) := by decide +kernel
theorem dX6_write_13 : decode cX6_write 13 = .ok (.ireturn, 1) := by decide +kernel
theorem dX6_write_14 : decode cX6_write 14 = .ok (.aload_n 0, 1) := by decide +kernel
theorem dX6_write_15 : decode cX6_write 15 = .ok (.getfield 10, 3) := by decide +kernel
theorem dX6_write_18 : decode cX6_write 18 = .ok (.iload_n 1, 1) := by decide +kernel
theorem dX6_write_19 : decode cX6_write 19 = .ok (.invokevirtual 60, 3) := by decide +kernel
theorem dX6_write_22 : decode cX6_write 22 = .ok (.ireturn, 1) := by decide +kernel
theorem dX6_road_0 : decode cX6_road 0 = .ok (.aload_n 0, 1) := by decide +kernel
theorem dX6_road_1 : decode cX6_road 1 = .ok (.getfield 19, 3) := by decide +kernel
theorem dX6_road_4 : decode cX6_road 4 = .ok (.iload_n 1, 1) := by decide +kernel
theorem dX6_road_5 : decode cX6_road 5 = .ok (.iload_n 2, 1) := by decide +kernel
theorem dX6_road_6 : decode cX6_road 6 = .ok (.invokevirtual 87, 3) := by decide +kernel
theorem dX6_road_9 : decode cX6_road 9 = .ok (.ifCond .ne 5, 3) := by decide +kernel
theorem dX6_road_12 : decode cX6_road 12 = .ok (.iconst (-1), 1) := by decide +kernel
theorem dX6_road_13 : decode cX6_road 13 = .ok (.ireturn, 1) := by decide +kernel
theorem dX6_road_14 : decode cX6_road 14 = .ok (.aload_n 0, 1) := by decide +kernel
theorem dX6_road_15 : decode cX6_road 15 = .ok (.getfield 19, 3) := by decide +kernel
theorem dX6_road_18 : decode cX6_road 18 = .ok (.invokevirtual 91, 3) := by decide +kernel
theorem dX6_road_21 : decode cX6_road 21 = .ok (.iload_n 1, 1) := by decide +kernel
theorem dX6_road_22 : decode cX6_road 22 = .ok (.iload_n 2, 1) := by decide +kernel
theorem dX6_road_23 : decode cX6_road 23 = .ok (.invokevirtual 95, 3) := by decide +kernel
theorem dX6_road_26 : decode cX6_road 26 = .ok (.istore_n 3, 1) := by decide +kernel
theorem dX6_road_27 : decode cX6_road 27 = .ok (.iload_n 3, 1) := by decide +kernel
theorem dX6_road_28 : decode cX6_road 28 = .ok (.ifCond .le 7, 3) := by decide +kernel
theorem dX6_road_31 : decode cX6_road 31 = .ok (.iload_n 3, 1) := by decide +kernel
theorem dX6_road_32 : decode cX6_road 32 = .ok (.goto 5, 3) := by decide +kernel
theorem dX6_road_35 : decode cX6_road 35 = .ok (.bipush (-4), 2) := by decide +kernel
theorem dX6_road_37 : decode cX6_road 37 = .ok (.ireturn, 1) := by decide +kernel
theorem dX6_post_0 : decode cX6_post 0 = .ok (.aload_n 0, 1) := by decide +kernel
theorem dX6_post_1 : decode cX6_post 1 = .ok (.getfield 19, 3) := by decide +kernel
theorem dX6_post_4 : decode cX6_post 4 = .ok (.iload_n 1, 1) := by decide +kernel
theorem dX6_post_5 : decode cX6_post 5 = .ok (.invokevirtual 101, 3) := by decide +kernel
theorem dX6_post_8 : decode cX6_post 8 = .ok (.ifCond .ne 5, 3) := by decide +kernel
theorem dX6_post_11 : decode cX6_post 11 = .ok (.iconst (-1), 1) := by decide +kernel
theorem dX6_post_12 : decode cX6_post 12 = .ok (.ireturn, 1) := by decide +kernel
theorem dX6_post_13 : decode cX6_post 13 = .ok (.iload_n 2, 1) := by decide +kernel
theorem dX6_post_14 : decode cX6_post 14 = .ok (.tableswitch 53 0 2 #[26, 35, 44], 26) := by decide +kernel
theorem dX6_post_40 : decode cX6_post 40 = .ok (.aload_n 0, 1) := by decide +kernel
theorem dX6_post_41 : decode cX6_post 41 = .ok (.getfield 19, 3) := by decide +kernel
theorem dX6_post_44 : decode cX6_post 44 = .ok (.iload_n 1, 1) := by decide +kernel
theorem dX6_post_45 : decode cX6_post 45 = .ok (.invokevirtual 105, 3) := by decide +kernel
theorem dX6_post_48 : decode cX6_post 48 = .ok (.ireturn, 1) := by decide +kernel
theorem dX6_post_49 : decode cX6_post 49 = .ok (.aload_n 0, 1) := by decide +kernel
theorem dX6_post_50 : decode cX6_post 50 = .ok (.getfield 19, 3) := by decide +kernel
theorem dX6_post_53 : decode cX6_post 53 = .ok (.iload_n 1, 1) := by decide +kernel
theorem dX6_post_54 : decode cX6_post 54 = .ok (.invokevirtual 108, 3) := by decide +kernel
theorem dX6_post_57 : decode cX6_post 57 = .ok (.ireturn, 1) := by decide +kernel
theorem dX6_post_58 : decode cX6_post 58 = .ok (.aload_n 0, 1) := by decide +kernel
theorem dX6_post_59 : decode cX6_post 59 = .ok (.getfield 19, 3) := by decide +kernel
theorem dX6_post_62 : decode cX6_post 62 = .ok (.iload_n 1, 1) := by decide +kernel
theorem dX6_post_63 : decode cX6_post 63 = .ok (.invokevirtual 111, 3) := by decide +kernel
theorem dX6_post_66 : decode cX6_post 66 = .ok (.ireturn, 1) := by decide +kernel
theorem dX6_post_67 : decode cX6_post 67 = .ok (.iconst (-1), 1) := by decide +kernel
theorem dX6_post_68 : decode cX6_post 68 = .ok (.ireturn, 1) := by decide +kernel
theorem dX6_arm_0 : decode cX6_arm 0 = .ok (.aload_n 0, 1) := by decide +kernel
theorem dX6_arm_1 : decode cX6_arm 1 = .ok (.getfield 19, 3) := by decide +kernel
theorem dX6_arm_4 : decode cX6_arm 4 = .ok (.iload_n 1, 1) := by decide +kernel
theorem dX6_arm_5 : decode cX6_arm 5 = .ok (.invokevirtual 101, 3) := by decide +kernel
theorem dX6_arm_8 : decode cX6_arm 8 = .ok (.ifCond .eq 14, 3) := by decide +kernel
theorem dX6_arm_11 : decode cX6_arm 11 = .ok (.aload_n 0, 1) := by decide +kernel
theorem dX6_arm_12 : decode cX6_arm 12 = .ok (.getfield 19, 3) := by decide +kernel
theorem dX6_arm_15 : decode cX6_arm 15 = .ok (.iload_n 2, 1) := by decide +kernel
theorem dX6_arm_16 : decode cX6_arm 16 = .ok (.invokevirtual 114, 3) := by decide +kernel
theorem dX6_arm_19 : decode cX6_arm 19 = .ok (.ifCond .ne 5, 3) := by decide +kernel
theorem dX6_arm_22 : decode cX6_arm 22 = .ok (.iconst (-1), 1) := by decide +kernel
theorem dX6_arm_23 : decode cX6_arm 23 = .ok (.ireturn, 1) := by decide +kernel
theorem dX6_arm_24 : decode cX6_arm 24 = .ok (.iload_n 3, 1) := by decide +kernel
theorem dX6_arm_25 : decode cX6_arm 25 = .ok (.tableswitch 57 0 2 #[27, 37, 47], 27) := by decide +kernel
theorem dX6_arm_52 : decode cX6_arm 52 = .ok (.aload_n 0, 1) := by decide +kernel
theorem dX6_arm_53 : decode cX6_arm 53 = .ok (.getfield 19, 3) := by decide +kernel
theorem dX6_arm_56 : decode cX6_arm 56 = .ok (.iload_n 1, 1) := by decide +kernel
theorem dX6_arm_57 : decode cX6_arm 57 = .ok (.iload_n 2, 1) := by decide +kernel
theorem dX6_arm_58 : decode cX6_arm 58 = .ok (.invokevirtual 117, 3) := by decide +kernel
theorem dX6_arm_61 : decode cX6_arm 61 = .ok (.ireturn, 1) := by decide +kernel
theorem dX6_arm_62 : decode cX6_arm 62 = .ok (.aload_n 0, 1) := by decide +kernel
theorem dX6_arm_63 : decode cX6_arm 63 = .ok (.getfield 19, 3) := by decide +kernel
theorem dX6_arm_66 : decode cX6_arm 66 = .ok (.iload_n 1, 1) := by decide +kernel
theorem dX6_arm_67 : decode cX6_arm 67 = .ok (.iload_n 2, 1) := by decide +kernel
theorem dX6_arm_68 : decode cX6_arm 68 = .ok (.invokevirtual 120, 3) := by decide +kernel
theorem dX6_arm_71 : decode cX6_arm 71 = .ok (.ireturn, 1) := by decide +kernel
theorem dX6_arm_72 : decode cX6_arm 72 = .ok (.aload_n 0, 1) := by decide +kernel
theorem dX6_arm_73 : decode cX6_arm 73 = .ok (.getfield 19, 3) := by decide +kernel
theorem dX6_arm_76 : decode cX6_arm 76 = .ok (.iload_n 1, 1) := by decide +kernel
theorem dX6_arm_77 : decode cX6_arm 77 = .ok (.iload_n 2, 1) := by decide +kernel
theorem dX6_arm_78 : decode cX6_arm 78 = .ok (.invokevirtual 123, 3) := by decide +kernel
theorem dX6_arm_81 : decode cX6_arm 81 = .ok (.ireturn, 1) := by decide +kernel
theorem dX6_arm_82 : decode cX6_arm 82 = .ok (.iconst (-1), 1) := by decide +kernel
theorem dX6_arm_83 : decode cX6_arm 83 = .ok (.ireturn, 1) := by decide +kernel
theorem dX6_walker_0 : decode cX6_walker 0 = .ok (.aload_n 0, 1) := by decide +kernel
theorem dX6_walker_1 : decode cX6_walker 1 = .ok (.getfield 19, 3) := by decide +kernel
theorem dX6_walker_4 : decode cX6_walker 4 = .ok (.iload_n 1, 1) := by decide +kernel
theorem dX6_walker_5 : decode cX6_walker 5 = .ok (.invokevirtual 126, 3) := by decide +kernel
theorem dX6_walker_8 : decode cX6_walker 8 = .ok (.ifCond .ne 5, 3) := by decide +kernel
theorem dX6_walker_11 : decode cX6_walker 11 = .ok (.iconst (-1), 1) := by decide +kernel
theorem dX6_walker_12 : decode cX6_walker 12 = .ok (.ireturn, 1) := by decide +kernel
theorem dX6_walker_13 : decode cX6_walker 13 = .ok (.iload_n 2, 1) := by decide +kernel
theorem dX6_walker_14 : decode cX6_walker 14 = .ok (.tableswitch 61 0 2 #[26, 35, 44], 26) := by decide +kernel
theorem dX6_walker_40 : decode cX6_walker 40 = .ok (.aload_n 0, 1) := by decide +kernel
theorem dX6_walker_41 : decode cX6_walker 41 = .ok (.getfield 19, 3) := by decide +kernel
theorem dX6_walker_44 : decode cX6_walker 44 = .ok (.iload_n 1, 1) := by decide +kernel
theorem dX6_walker_45 : decode cX6_walker 45 = .ok (.invokevirtual 129, 3) := by decide +kernel
theorem dX6_walker_48 : decode cX6_walker 48 = .ok (.ireturn, 1) := by decide +kernel
theorem dX6_walker_49 : decode cX6_walker 49 = .ok (.aload_n 0, 1) := by decide +kernel
theorem dX6_walker_50 : decode cX6_walker 50 = .ok (.getfield 19, 3) := by decide +kernel
theorem dX6_walker_53 : decode cX6_walker 53 = .ok (.iload_n 1, 1) := by decide +kernel
theorem dX6_walker_54 : decode cX6_walker 54 = .ok (.invokevirtual 132, 3) := by decide +kernel
theorem dX6_walker_57 : decode cX6_walker 57 = .ok (.ireturn, 1) := by decide +kernel
theorem dX6_walker_58 : decode cX6_walker 58 = .ok (.aload_n 0, 1) := by decide +kernel
theorem dX6_walker_59 : decode cX6_walker 59 = .ok (.getfield 19, 3) := by decide +kernel
theorem dX6_walker_62 : decode cX6_walker 62 = .ok (.iload_n 1, 1) := by decide +kernel
theorem dX6_walker_63 : decode cX6_walker 63 = .ok (.invokevirtual 135, 3) := by decide +kernel
theorem dX6_walker_66 : decode cX6_walker 66 = .ok (.ifCond .eq 7, 3) := by decide +kernel
theorem dX6_walker_69 : decode cX6_walker 69 = .ok (.iconst 1, 1) := by decide +kernel
theorem dX6_walker_70 : decode cX6_walker 70 = .ok (.goto 4, 3) := by decide +kernel
theorem dX6_walker_73 : decode cX6_walker 73 = .ok (.iconst 0, 1) := by decide +kernel
theorem dX6_walker_74 : decode cX6_walker 74 = .ok (.ireturn, 1) := by decide +kernel
theorem dX6_walker_75 : decode cX6_walker 75 = .ok (.iconst (-1), 1) := by decide +kernel
theorem dX6_walker_76 : decode cX6_walker 76 = .ok (.ireturn, 1) := by decide +kernel
theorem dX6_pass_0 : decode cX6_pass 0 = .ok (.iload_n 1, 1) := by decide +kernel
theorem dX6_pass_1 : decode cX6_pass 1 = .ok (.iconst 1, 1) := by decide +kernel
theorem dX6_pass_2 : decode cX6_pass 2 = .ok (.if_icmp .lt 9, 3) := by decide +kernel
theorem dX6_pass_5 : decode cX6_pass 5 = .ok (.iload_n 1, 1) := by decide +kernel
theorem dX6_pass_6 : decode cX6_pass 6 = .ok (.bipush 20, 2) := by decide +kernel
theorem dX6_pass_8 : decode cX6_pass 8 = .ok (.if_icmp .le 5, 3) := by decide +kernel
theorem dX6_pass_11 : decode cX6_pass 11 = .ok (.iconst (-1), 1) := by decide +kernel
theorem dX6_pass_12 : decode cX6_pass 12 = .ok (.ireturn, 1) := by decide +kernel
theorem dX6_pass_13 : decode cX6_pass 13 = .ok (.aload_n 0, 1) := by decide +kernel
theorem dX6_pass_14 : decode cX6_pass 14 = .ok (.getfield 19, 3) := by decide +kernel
theorem dX6_pass_17 : decode cX6_pass 17 = .ok (.invokevirtual 138, 3) := by decide +kernel
theorem dX6_pass_20 : decode cX6_pass 20 = .ok (.iload_n 1, 1) := by decide +kernel
theorem dX6_pass_21 : decode cX6_pass 21 = .ok (.iadd, 1) := by decide +kernel
theorem dX6_pass_22 : decode cX6_pass 22 = .ok (.sipush 999, 3) := by decide +kernel
theorem dX6_pass_25 : decode cX6_pass 25 = .ok (.if_icmp .le 6, 3) := by decide +kernel
theorem dX6_pass_28 : decode cX6_pass 28 = .ok (.bipush (-2), 2) := by decide +kernel
theorem dX6_pass_30 : decode cX6_pass 30 = .ok (.ireturn, 1) := by decide +kernel
theorem dX6_pass_31 : decode cX6_pass 31 = .ok (.aload_n 0, 1) := by decide +kernel
theorem dX6_pass_32 : decode cX6_pass 32 = .ok (.getfield 31, 3) := by decide +kernel
theorem dX6_pass_35 : decode cX6_pass 35 = .ok (.aload_n 0, 1) := by decide +kernel
theorem dX6_pass_36 : decode cX6_pass 36 = .ok (.getfield 19, 3) := by decide +kernel
theorem dX6_pass_39 : decode cX6_pass 39 = .ok (.invokevirtual 141, 3) := by decide +kernel
theorem dX6_pass_42 : decode cX6_pass 42 = .ok (.aload_n 0, 1) := by decide +kernel
theorem dX6_pass_43 : decode cX6_pass 43 = .ok (.getfield 19, 3) := by decide +kernel
theorem dX6_pass_46 : decode cX6_pass 46 = .ok (.iload_n 1, 1) := by decide +kernel
theorem dX6_pass_47 : decode cX6_pass 47 = .ok (.invokevirtual 144, 3) := by decide +kernel
theorem dX6_pass_50 : decode cX6_pass 50 = .ok (.aload_n 0, 1) := by decide +kernel
theorem dX6_pass_51 : decode cX6_pass 51 = .ok (.getfield 19, 3) := by decide +kernel
theorem dX6_pass_54 : decode cX6_pass 54 = .ok (.invokevirtual 138, 3) := by decide +kernel
theorem dX6_pass_57 : decode cX6_pass 57 = .ok (.ireturn, 1) := by decide +kernel
theorem dX6_year_0 : decode cX6_year 0 = .ok (.aload_n 0, 1) := by decide +kernel
theorem dX6_year_1 : decode cX6_year 1 = .ok (.getfield 31, 3) := by decide +kernel
theorem dX6_year_4 : decode cX6_year 4 = .ok (.aload_n 0, 1) := by decide +kernel
theorem dX6_year_5 : decode cX6_year 5 = .ok (.getfield 19, 3) := by decide +kernel
theorem dX6_year_8 : decode cX6_year 8 = .ok (.invokevirtual 141, 3) := by decide +kernel
theorem dX6_year_11 : decode cX6_year 11 = .ok (.aload_n 0, 1) := by decide +kernel
theorem dX6_year_12 : decode cX6_year 12 = .ok (.getfield 19, 3) := by decide +kernel
theorem dX6_year_15 : decode cX6_year 15 = .ok (.invokevirtual 147, 3) := by decide +kernel
theorem dX6_year_18 : decode cX6_year 18 = .ok (.ireturn, 1) := by decide +kernel
theorem dX6_lays_0 : decode cX6_lays 0 = .ok (.aload_n 0, 1) := by decide +kernel
theorem dX6_lays_1 : decode cX6_lays 1 = .ok (.getfield 19, 3) := by decide +kernel
theorem dX6_lays_4 : decode cX6_lays 4 = .ok (.iload_n 1, 1) := by decide +kernel
theorem dX6_lays_5 : decode cX6_lays 5 = .ok (.iload_n 2, 1) := by decide +kernel
theorem dX6_lays_6 : decode cX6_lays 6 = .ok (.invokevirtual 87, 3) := by decide +kernel
theorem dX6_lays_9 : decode cX6_lays 9 = .ok (.ifCond .eq 13, 3) := by decide +kernel
theorem dX6_lays_12 : decode cX6_lays 12 = .ok (.iload_n 3, 1) := by decide +kernel
theorem dX6_lays_13 : decode cX6_lays 13 = .ok (.ifCond .lt 9, 3) := by decide +kernel
theorem dX6_lays_16 : decode cX6_lays 16 = .ok (.iload_n 3, 1) := by decide +kernel
theorem dX6_lays_17 : decode cX6_lays 17 = .ok (.bipush 9, 2) := by decide +kernel
theorem dX6_lays_19 : decode cX6_lays 19 = .ok (.if_icmp .le 5, 3) := by decide +kernel
theorem dX6_lays_22 : decode cX6_lays 22 = .ok (.iconst (-1), 1) := by decide +kernel
theorem dX6_lays_23 : decode cX6_lays 23 = .ok (.ireturn, 1) := by decide +kernel
theorem dX6_lays_24 : decode cX6_lays 24 = .ok (.aload_n 0, 1) := by decide +kernel
theorem dX6_lays_25 : decode cX6_lays 25 = .ok (.getfield 31, 3) := by decide +kernel
theorem dX6_lays_28 : decode cX6_lays 28 = .ok (.aload_n 0, 1) := by decide +kernel
theorem dX6_lays_29 : decode cX6_lays 29 = .ok (.getfield 19, 3) := by decide +kernel
theorem dX6_lays_32 : decode cX6_lays 32 = .ok (.invokevirtual 141, 3) := by decide +kernel
theorem dX6_lays_35 : decode cX6_lays 35 = .ok (.aload_n 0, 1) := by decide +kernel
theorem dX6_lays_36 : decode cX6_lays 36 = .ok (.getfield 19, 3) := by decide +kernel
theorem dX6_lays_39 : decode cX6_lays 39 = .ok (.invokevirtual 91, 3) := by decide +kernel
theorem dX6_lays_42 : decode cX6_lays 42 = .ok (.iload_n 1, 1) := by decide +kernel
theorem dX6_lays_43 : decode cX6_lays 43 = .ok (.iload_n 2, 1) := by decide +kernel
theorem dX6_lays_44 : decode cX6_lays 44 = .ok (.invokevirtual 95, 3) := by decide +kernel
theorem dX6_lays_47 : decode cX6_lays 47 = .ok (.istore 4, 2) := by decide +kernel
theorem dX6_lays_49 : decode cX6_lays 49 = .ok (.aload_n 0, 1) := by decide +kernel
theorem dX6_lays_50 : decode cX6_lays 50 = .ok (.getfield 19, 3) := by decide +kernel
theorem dX6_lays_53 : decode cX6_lays 53 = .ok (.invokevirtual 91, 3) := by decide +kernel
theorem dX6_lays_56 : decode cX6_lays 56 = .ok (.iload_n 1, 1) := by decide +kernel
theorem dX6_lays_57 : decode cX6_lays 57 = .ok (.iload_n 2, 1) := by decide +kernel
theorem dX6_lays_58 : decode cX6_lays 58 = .ok (.iload_n 3, 1) := by decide +kernel
theorem dX6_lays_59 : decode cX6_lays 59 = .ok (.invokevirtual 150, 3) := by decide +kernel
theorem dX6_lays_62 : decode cX6_lays 62 = .ok (.iload 4, 2) := by decide +kernel
theorem dX6_lays_64 : decode cX6_lays 64 = .ok (.ireturn, 1) := by decide +kernel
theorem dX6_paint_0 : decode cX6_paint 0 = .ok (.aload_n 0, 1) := by decide +kernel
theorem dX6_paint_1 : decode cX6_paint 1 = .ok (.getfield 19, 3) := by decide +kernel
theorem dX6_paint_4 : decode cX6_paint 4 = .ok (.iload_n 1, 1) := by decide +kernel
theorem dX6_paint_5 : decode cX6_paint 5 = .ok (.invokevirtual 101, 3) := by decide +kernel
theorem dX6_paint_8 : decode cX6_paint 8 = .ok (.ifCond .ne 5, 3) := by decide +kernel
theorem dX6_paint_11 : decode cX6_paint 11 = .ok (.iconst (-1), 1) := by decide +kernel
theorem dX6_paint_12 : decode cX6_paint 12 = .ok (.ireturn, 1) := by decide +kernel
theorem dX6_paint_13 : decode cX6_paint 13 = .ok (.aload_n 0, 1) := by decide +kernel
theorem dX6_paint_14 : decode cX6_paint 14 = .ok (.getfield 19, 3) := by decide +kernel
theorem dX6_paint_17 : decode cX6_paint 17 = .ok (.iload_n 1, 1) := by decide +kernel
theorem dX6_paint_18 : decode cX6_paint 18 = .ok (.invokevirtual 154, 3) := by decide +kernel
theorem dX6_paint_21 : decode cX6_paint 21 = .ok (.ifCond .eq 6, 3) := by decide +kernel
theorem dX6_paint_24 : decode cX6_paint 24 = .ok (.bipush (-2), 2) := by decide +kernel
theorem dX6_paint_26 : decode cX6_paint 26 = .ok (.ireturn, 1) := by decide +kernel
theorem dX6_paint_27 : decode cX6_paint 27 = .ok (.aload_n 0, 1) := by decide +kernel
theorem dX6_paint_28 : decode cX6_paint 28 = .ok (.getfield 31, 3) := by decide +kernel
theorem dX6_paint_31 : decode cX6_paint 31 = .ok (.aload_n 0, 1) := by decide +kernel
theorem dX6_paint_32 : decode cX6_paint 32 = .ok (.getfield 19, 3) := by decide +kernel
theorem dX6_paint_35 : decode cX6_paint 35 = .ok (.invokevirtual 141, 3) := by decide +kernel
theorem dX6_paint_38 : decode cX6_paint 38 = .ok (.aload_n 0, 1) := by decide +kernel
theorem dX6_paint_39 : decode cX6_paint 39 = .ok (.getfield 19, 3) := by decide +kernel
theorem dX6_paint_42 : decode cX6_paint 42 = .ok (.iload_n 1, 1) := by decide +kernel
theorem dX6_paint_43 : decode cX6_paint 43 = .ok (.invokevirtual 157, 3) := by decide +kernel
theorem dX6_paint_46 : decode cX6_paint 46 = .ok (.ireturn, 1) := by decide +kernel
theorem dX6_move_0 : decode cX6_move 0 = .ok (.aload_n 0, 1) := by decide +kernel
theorem dX6_move_1 : decode cX6_move 1 = .ok (.getfield 19, 3) := by decide +kernel
theorem dX6_move_4 : decode cX6_move 4 = .ok (.iload_n 1, 1) := by decide +kernel
theorem dX6_move_5 : decode cX6_move 5 = .ok (.invokevirtual 101, 3) := by decide +kernel
theorem dX6_move_8 : decode cX6_move 8 = .ok (.ifCond .eq 14, 3) := by decide +kernel
theorem dX6_move_11 : decode cX6_move 11 = .ok (.aload_n 0, 1) := by decide +kernel
theorem dX6_move_12 : decode cX6_move 12 = .ok (.getfield 19, 3) := by decide +kernel
theorem dX6_move_15 : decode cX6_move 15 = .ok (.iload_n 2, 1) := by decide +kernel
theorem dX6_move_16 : decode cX6_move 16 = .ok (.invokevirtual 114, 3) := by decide +kernel
theorem dX6_move_19 : decode cX6_move 19 = .ok (.ifCond .ne 5, 3) := by decide +kernel
theorem dX6_move_22 : decode cX6_move 22 = .ok (.iconst (-1), 1) := by decide +kernel
theorem dX6_move_23 : decode cX6_move 23 = .ok (.ireturn, 1) := by decide +kernel
theorem dX6_move_24 : decode cX6_move 24 = .ok (.aload_n 0, 1) := by decide +kernel
theorem dX6_move_25 : decode cX6_move 25 = .ok (.getfield 19, 3) := by decide +kernel
theorem dX6_move_28 : decode cX6_move 28 = .ok (.iload_n 1, 1) := by decide +kernel
theorem dX6_move_29 : decode cX6_move 29 = .ok (.invokevirtual 108, 3) := by decide +kernel
theorem dX6_move_32 : decode cX6_move 32 = .ok (.istore_n 3, 1) := by decide +kernel
theorem dX6_move_33 : decode cX6_move 33 = .ok (.aload_n 0, 1) := by decide +kernel
theorem dX6_move_34 : decode cX6_move 34 = .ok (.getfield 19, 3) := by decide +kernel
theorem dX6_move_37 : decode cX6_move 37 = .ok (.iload_n 1, 1) := by decide +kernel
theorem dX6_move_38 : decode cX6_move 38 = .ok (.invokevirtual 154, 3) := by decide +kernel
theorem dX6_move_41 : decode cX6_move 41 = .ok (.ifCond .ne 8, 3) := by decide +kernel
theorem dX6_move_44 : decode cX6_move 44 = .ok (.iload_n 3, 1) := by decide +kernel
theorem dX6_move_45 : decode cX6_move 45 = .ok (.iload_n 2, 1) := by decide +kernel
theorem dX6_move_46 : decode cX6_move 46 = .ok (.if_icmp .ne 6, 3) := by decide +kernel
theorem dX6_move_49 : decode cX6_move 49 = .ok (.bipush (-2), 2) := by decide +kernel
theorem dX6_move_51 : decode cX6_move 51 = .ok (.ireturn, 1) := by decide +kernel
theorem dX6_move_52 : decode cX6_move 52 = .ok (.aload_n 0, 1) := by decide +kernel
theorem dX6_move_53 : decode cX6_move 53 = .ok (.getfield 31, 3) := by decide +kernel
theorem dX6_move_56 : decode cX6_move 56 = .ok (.aload_n 0, 1) := by decide +kernel
theorem dX6_move_57 : decode cX6_move 57 = .ok (.getfield 19, 3) := by decide +kernel
theorem dX6_move_60 : decode cX6_move 60 = .ok (.invokevirtual 141, 3) := by decide +kernel
theorem dX6_move_63 : decode cX6_move 63 = .ok (.aload_n 0, 1) := by decide +kernel
theorem dX6_move_64 : decode cX6_move 64 = .ok (.getfield 19, 3) := by decide +kernel
theorem dX6_move_67 : decode cX6_move 67 = .ok (.iload_n 1, 1) := by decide +kernel
theorem dX6_move_68 : decode cX6_move 68 = .ok (.iload_n 2, 1) := by decide +kernel
theorem dX6_move_69 : decode cX6_move 69 = .ok (.invokevirtual 160, 3) := by decide +kernel
theorem dX6_move_72 : decode cX6_move 72 = .ok (.iload_n 3, 1) := by decide +kernel
theorem dX6_move_73 : decode cX6_move 73 = .ok (.ireturn, 1) := by decide +kernel
theorem dX6_retire_0 : decode cX6_retire 0 = .ok (.aload_n 0, 1) := by decide +kernel
theorem dX6_retire_1 : decode cX6_retire 1 = .ok (.getfield 19, 3) := by decide +kernel
theorem dX6_retire_4 : decode cX6_retire 4 = .ok (.iload_n 1, 1) := by decide +kernel
theorem dX6_retire_5 : decode cX6_retire 5 = .ok (.invokevirtual 101, 3) := by decide +kernel
theorem dX6_retire_8 : decode cX6_retire 8 = .ok (.ifCond .ne 5, 3) := by decide +kernel
theorem dX6_retire_11 : decode cX6_retire 11 = .ok (.iconst (-1), 1) := by decide +kernel
theorem dX6_retire_12 : decode cX6_retire 12 = .ok (.ireturn, 1) := by decide +kernel
theorem dX6_retire_13 : decode cX6_retire 13 = .ok (.aload_n 0, 1) := by decide +kernel
theorem dX6_retire_14 : decode cX6_retire 14 = .ok (.getfield 19, 3) := by decide +kernel
theorem dX6_retire_17 : decode cX6_retire 17 = .ok (.iload_n 1, 1) := by decide +kernel
theorem dX6_retire_18 : decode cX6_retire 18 = .ok (.invokevirtual 154, 3) := by decide +kernel
theorem dX6_retire_21 : decode cX6_retire 21 = .ok (.ifCond .eq 6, 3) := by decide +kernel
theorem dX6_retire_24 : decode cX6_retire 24 = .ok (.bipush (-2), 2) := by decide +kernel
theorem dX6_retire_26 : decode cX6_retire 26 = .ok (.ireturn, 1) := by decide +kernel
theorem dX6_retire_27 : decode cX6_retire 27 = .ok (.aload_n 0, 1) := by decide +kernel
theorem dX6_retire_28 : decode cX6_retire 28 = .ok (.getfield 19, 3) := by decide +kernel
theorem dX6_retire_31 : decode cX6_retire 31 = .ok (.iload_n 1, 1) := by decide +kernel
theorem dX6_retire_32 : decode cX6_retire 32 = .ok (.invokevirtual 108, 3) := by decide +kernel
theorem dX6_retire_35 : decode cX6_retire 35 = .ok (.istore_n 2, 1) := by decide +kernel
theorem dX6_retire_36 : decode cX6_retire 36 = .ok (.aload_n 0, 1) := by decide +kernel
theorem dX6_retire_37 : decode cX6_retire 37 = .ok (.getfield 31, 3) := by decide +kernel
theorem dX6_retire_40 : decode cX6_retire 40 = .ok (.aload_n 0, 1) := by decide +kernel
theorem dX6_retire_41 : decode cX6_retire 41 = .ok (.getfield 19, 3) := by decide +kernel
theorem dX6_retire_44 : decode cX6_retire 44 = .ok (.invokevirtual 141, 3) := by decide +kernel
theorem dX6_retire_47 : decode cX6_retire 47 = .ok (.aload_n 0, 1) := by decide +kernel
theorem dX6_retire_48 : decode cX6_retire 48 = .ok (.getfield 19, 3) := by decide +kernel
theorem dX6_retire_51 : decode cX6_retire 51 = .ok (.iload_n 1, 1) := by decide +kernel
theorem dX6_retire_52 : decode cX6_retire 52 = .ok (.invokevirtual 164, 3) := by decide +kernel
theorem dX6_retire_55 : decode cX6_retire 55 = .ok (.iload_n 2, 1) := by decide +kernel
theorem dX6_retire_56 : decode cX6_retire 56 = .ok (.ireturn, 1) := by decide +kernel
theorem dX6_undo_0 : decode cX6_undo 0 = .ok (.aload_n 0, 1) := by decide +kernel
theorem dX6_undo_1 : decode cX6_undo 1 = .ok (.getfield 31, 3) := by decide +kernel
theorem dX6_undo_4 : decode cX6_undo 4 = .ok (.aload_n 0, 1) := by decide +kernel
theorem dX6_undo_5 : decode cX6_undo 5 = .ok (.getfield 19, 3) := by decide +kernel
theorem dX6_undo_8 : decode cX6_undo 8 = .ok (.invokevirtual 167, 3) := by decide +kernel
theorem dX6_undo_11 : decode cX6_undo 11 = .ok (.ifCond .eq 13, 3) := by decide +kernel
theorem dX6_undo_14 : decode cX6_undo 14 = .ok (.aload_n 0, 1) := by decide +kernel
theorem dX6_undo_15 : decode cX6_undo 15 = .ok (.getfield 31, 3) := by decide +kernel
theorem dX6_undo_18 : decode cX6_undo 18 = .ok (.invokevirtual 171, 3) := by decide +kernel
theorem dX6_undo_21 : decode cX6_undo 21 = .ok (.goto 5, 3) := by decide +kernel
theorem dX6_undo_24 : decode cX6_undo 24 = .ok (.bipush (-2), 2) := by decide +kernel
theorem dX6_undo_26 : decode cX6_undo 26 = .ok (.ireturn, 1) := by decide +kernel
theorem dX6_comes_0 : decode cX6_comes 0 = .ok (.aload_n 0, 1) := by decide +kernel
theorem dX6_comes_1 : decode cX6_comes 1 = .ok (.getfield 19, 3) := by decide +kernel
theorem dX6_comes_4 : decode cX6_comes 4 = .ok (.iload_n 1, 1) := by decide +kernel
theorem dX6_comes_5 : decode cX6_comes 5 = .ok (.invokevirtual 126, 3) := by decide +kernel
theorem dX6_comes_8 : decode cX6_comes 8 = .ok (.ifCond .ne 5, 3) := by decide +kernel
theorem dX6_comes_11 : decode cX6_comes 11 = .ok (.iconst (-1), 1) := by decide +kernel
theorem dX6_comes_12 : decode cX6_comes 12 = .ok (.ireturn, 1) := by decide +kernel
theorem dX6_comes_13 : decode cX6_comes 13 = .ok (.aload_n 0, 1) := by decide +kernel
theorem dX6_comes_14 : decode cX6_comes 14 = .ok (.getfield 23, 3) := by decide +kernel
theorem dX6_comes_17 : decode cX6_comes 17 = .ok (.aload_n 0, 1) := by decide +kernel
theorem dX6_comes_18 : decode cX6_comes 18 = .ok (.getfield 19, 3) := by decide +kernel
theorem dX6_comes_21 : decode cX6_comes 21 = .ok (.invokevirtual 80, 3) := by decide +kernel
theorem dX6_comes_24 : decode cX6_comes 24 = .ok (.iconst 0, 1) := by decide +kernel
theorem dX6_comes_25 : decode cX6_comes 25 = .ok (.istore_n 2, 1) := by decide +kernel
theorem dX6_comes_26 : decode cX6_comes 26 = .ok (.iload_n 2, 1) := by decide +kernel
theorem dX6_comes_27 : decode cX6_comes 27 = .ok (.bipush 40, 2) := by decide +kernel
theorem dX6_comes_29 : decode cX6_comes 29 = .ok (.if_icmp .gt 30, 3) := by decide +kernel
theorem dX6_comes_32 : decode cX6_comes 32 = .ok (.aload_n 0, 1) := by decide +kernel
theorem dX6_comes_33 : decode cX6_comes 33 = .ok (.getfield 23, 3) := by decide +kernel
theorem dX6_comes_36 : decode cX6_comes 36 = .ok (.iload_n 1, 1) := by decide +kernel
theorem dX6_comes_37 : decode cX6_comes 37 = .ok (.invokevirtual 135, 3) := by decide +kernel
theorem dX6_comes_40 : decode cX6_comes 40 = .ok (.ifCond .eq 5, 3) := by decide +kernel
theorem dX6_comes_43 : decode cX6_comes 43 = .ok (.iload_n 2, 1) := by decide +kernel
theorem dX6_comes_44 : decode cX6_comes 44 = .ok (.ireturn, 1) := by decide +kernel
theorem dX6_comes_45 : decode cX6_comes 45 = .ok (.aload_n 0, 1) := by decide +kernel
theorem dX6_comes_46 : decode cX6_comes 46 = .ok (.getfield 23, 3) := by decide +kernel
theorem dX6_comes_49 : decode cX6_comes 49 = .ok (.iconst 1, 1) := by decide +kernel
theorem dX6_comes_50 : decode cX6_comes 50 = .ok (.invokevirtual 144, 3) := by decide +kernel
theorem dX6_comes_53 : decode cX6_comes 53 = .ok (.iinc 2 1, 3) := by decide +kernel
theorem dX6_comes_56 : decode cX6_comes 56 = .ok (.goto (-30), 3) := by decide +kernel
theorem dX6_comes_59 : decode cX6_comes 59 = .ok (.bipush (-4), 2) := by decide +kernel
theorem dX6_comes_61 : decode cX6_comes 61 = .ok (.ireturn, 1) := by decide +kernel
theorem dX6_trail_0 : decode cX6_trail 0 = .ok (.aload_n 0, 1) := by decide +kernel
theorem dX6_trail_1 : decode cX6_trail 1 = .ok (.getfield 19, 3) := by decide +kernel
theorem dX6_trail_4 : decode cX6_trail 4 = .ok (.iload_n 1, 1) := by decide +kernel
theorem dX6_trail_5 : decode cX6_trail 5 = .ok (.invokevirtual 126, 3) := by decide +kernel
theorem dX6_trail_8 : decode cX6_trail 8 = .ok (.ifCond .eq 13, 3) := by decide +kernel
theorem dX6_trail_11 : decode cX6_trail 11 = .ok (.iload_n 2, 1) := by decide +kernel
theorem dX6_trail_12 : decode cX6_trail 12 = .ok (.ifCond .lt 9, 3) := by decide +kernel
theorem dX6_trail_15 : decode cX6_trail 15 = .ok (.iload_n 2, 1) := by decide +kernel
theorem dX6_trail_16 : decode cX6_trail 16 = .ok (.bipush 40, 2) := by decide +kernel
theorem dX6_trail_18 : decode cX6_trail 18 = .ok (.if_icmp .le 5, 3) := by decide +kernel
theorem dX6_trail_21 : decode cX6_trail 21 = .ok (.iconst (-1), 1) := by decide +kernel
theorem dX6_trail_22 : decode cX6_trail 22 = .ok (.ireturn, 1) := by decide +kernel
theorem dX6_trail_23 : decode cX6_trail 23 = .ok (.aload_n 0, 1) := by decide +kernel
theorem dX6_trail_24 : decode cX6_trail 24 = .ok (.getfield 23, 3) := by decide +kernel
theorem dX6_trail_27 : decode cX6_trail 27 = .ok (.aload_n 0, 1) := by decide +kernel
theorem dX6_trail_28 : decode cX6_trail 28 = .ok (.getfield 19, 3) := by decide +kernel
theorem dX6_trail_31 : decode cX6_trail 31 = .ok (.invokevirtual 80, 3) := by decide +kernel
theorem dX6_trail_34 : decode cX6_trail 34 = .ok (.aload_n 0, 1) := by decide +kernel
theorem dX6_trail_35 : decode cX6_trail 35 = .ok (.getfield 23, 3) := by decide +kernel
theorem dX6_trail_38 : decode cX6_trail 38 = .ok (.iload_n 2, 1) := by decide +kernel
theorem dX6_trail_39 : decode cX6_trail 39 = .ok (.invokevirtual 144, 3) := by decide +kernel
theorem dX6_trail_42 : decode cX6_trail 42 = .ok (.aload_n 0, 1) := by decide +kernel
theorem dX6_trail_43 : decode cX6_trail 43 = .ok (.getfield 23, 3) := by decide +kernel
theorem dX6_trail_46 : decode cX6_trail 46 = .ok (.iload_n 1, 1) := by decide +kernel
theorem dX6_trail_47 : decode cX6_trail 47 = .ok (.invokevirtual 129, 3) := by decide +kernel
theorem dX6_trail_50 : decode cX6_trail 50 = .ok (.ireturn, 1) := by decide +kernel
theorem dX6_lost_0 : decode cX6_lost 0 = .ok (.aload_n 0, 1) := by decide +kernel
theorem dX6_lost_1 : decode cX6_lost 1 = .ok (.getfield 23, 3) := by decide +kernel
theorem dX6_lost_4 : decode cX6_lost 4 = .ok (.aload_n 0, 1) := by decide +kernel
theorem dX6_lost_5 : decode cX6_lost 5 = .ok (.getfield 19, 3) := by decide +kernel
theorem dX6_lost_8 : decode cX6_lost 8 = .ok (.invokevirtual 80, 3) := by decide +kernel
theorem dX6_lost_11 : decode cX6_lost 11 = .ok (.aload_n 0, 1) := by decide +kernel
theorem dX6_lost_12 : decode cX6_lost 12 = .ok (.getfield 23, 3) := by decide +kernel
theorem dX6_lost_15 : decode cX6_lost 15 = .ok (.bipush 40, 2) := by decide +kernel
theorem dX6_lost_17 : decode cX6_lost 17 = .ok (.invokevirtual 144, 3) := by decide +kernel
theorem dX6_lost_20 : decode cX6_lost 20 = .ok (.iconst 0, 1) := by decide +kernel
theorem dX6_lost_21 : decode cX6_lost 21 = .ok (.istore_n 1, 1) := by decide +kernel
theorem dX6_lost_22 : decode cX6_lost 22 = .ok (.iconst 0, 1) := by decide +kernel
theorem dX6_lost_23 : decode cX6_lost 23 = .ok (.istore_n 2, 1) := by decide +kernel
theorem dX6_lost_24 : decode cX6_lost 24 = .ok (.iload_n 2, 1) := by decide +kernel
theorem dX6_lost_25 : decode cX6_lost 25 = .ok (.aload_n 0, 1) := by decide +kernel
theorem dX6_lost_26 : decode cX6_lost 26 = .ok (.getfield 23, 3) := by decide +kernel
theorem dX6_lost_29 : decode cX6_lost 29 = .ok (.invokevirtual 77, 3) := by decide +kernel
theorem dX6_lost_32 : decode cX6_lost 32 = .ok (.if_icmp .ge 26, 3) := by decide +kernel
theorem dX6_lost_35 : decode cX6_lost 35 = .ok (.aload_n 0, 1) := by decide +kernel
theorem dX6_lost_36 : decode cX6_lost 36 = .ok (.getfield 23, 3) := by decide +kernel
theorem dX6_lost_39 : decode cX6_lost 39 = .ok (.iload_n 2, 1) := by decide +kernel
theorem dX6_lost_40 : decode cX6_lost 40 = .ok (.invokevirtual 135, 3) := by decide +kernel
theorem dX6_lost_43 : decode cX6_lost 43 = .ok (.ifCond .ne 9, 3) := by decide +kernel
theorem dX6_lost_46 : decode cX6_lost 46 = .ok (.iload_n 1, 1) := by decide +kernel
theorem dX6_lost_47 : decode cX6_lost 47 = .ok (.iconst 1, 1) := by decide +kernel
theorem dX6_lost_48 : decode cX6_lost 48 = .ok (.iload_n 2, 1) := by decide +kernel
theorem dX6_lost_49 : decode cX6_lost 49 = .ok (.ishl, 1) := by decide +kernel
theorem dX6_lost_50 : decode cX6_lost 50 = .ok (.ior, 1) := by decide +kernel
theorem dX6_lost_51 : decode cX6_lost 51 = .ok (.istore_n 1, 1) := by decide +kernel
theorem dX6_lost_52 : decode cX6_lost 52 = .ok (.iinc 2 1, 3) := by decide +kernel
theorem dX6_lost_55 : decode cX6_lost 55 = .ok (.goto (-31), 3) := by decide +kernel
theorem dX6_lost_58 : decode cX6_lost 58 = .ok (.iload_n 1, 1) := by decide +kernel
theorem dX6_lost_59 : decode cX6_lost 59 = .ok (.ireturn, 1) := by decide +kernel
theorem dX6_helps_0 : decode cX6_helps 0 = .ok (.iload_n 1, 1) := by decide +kernel
theorem dX6_helps_1 : decode cX6_helps 1 = .ok (.ifCond .lt 8, 3) := by decide +kernel
theorem dX6_helps_4 : decode cX6_helps 4 = .ok (.iload_n 1, 1) := by decide +kernel
theorem dX6_helps_5 : decode cX6_helps 5 = .ok (.iconst 1, 1) := by decide +kernel
theorem dX6_helps_6 : decode cX6_helps 6 = .ok (.if_icmp .le 5, 3) := by decide +kernel
theorem dX6_helps_9 : decode cX6_helps 9 = .ok (.iconst (-1), 1) := by decide +kernel
theorem dX6_helps_10 : decode cX6_helps 10 = .ok (.ireturn, 1) := by decide +kernel
theorem dX6_helps_11 : decode cX6_helps 11 = .ok (.bipush (-4), 2) := by decide +kernel
theorem dX6_helps_13 : decode cX6_helps 13 = .ok (.istore_n 2, 1) := by decide +kernel
theorem dX6_helps_14 : decode cX6_helps 14 = .ok (.bipush (-4), 2) := by decide +kernel
theorem dX6_helps_16 : decode cX6_helps 16 = .ok (.istore_n 3, 1) := by decide +kernel
theorem dX6_helps_17 : decode cX6_helps 17 = .ok (.iconst 0, 1) := by decide +kernel
theorem dX6_helps_18 : decode cX6_helps 18 = .ok (.istore 4, 2) := by decide +kernel
theorem dX6_helps_20 : decode cX6_helps 20 = .ok (.iload 4, 2) := by decide +kernel
theorem dX6_helps_22 : decode cX6_helps 22 = .ok (.aload_n 0, 1) := by decide +kernel
theorem dX6_helps_23 : decode cX6_helps 23 = .ok (.getfield 19, 3) := by decide +kernel
theorem dX6_helps_26 : decode cX6_helps 26 = .ok (.invokevirtual 174, 3) := by decide +kernel
theorem dX6_helps_29 : decode cX6_helps 29 = .ok (.if_icmp .ge 49, 3) := by decide +kernel
theorem dX6_helps_32 : decode cX6_helps 32 = .ok (.aload_n 0, 1) := by decide +kernel
theorem dX6_helps_33 : decode cX6_helps 33 = .ok (.getfield 19, 3) := by decide +kernel
theorem dX6_helps_36 : decode cX6_helps 36 = .ok (.iload 4, 2) := by decide +kernel
theorem dX6_helps_38 : decode cX6_helps 38 = .ok (.invokevirtual 177, 3) := by decide +kernel
theorem dX6_helps_41 : decode cX6_helps 41 = .ok (.bipush (-4), 2) := by decide +kernel
theorem dX6_helps_43 : decode cX6_helps 43 = .ok (.if_icmp .ne 29, 3) := by decide +kernel
theorem dX6_helps_46 : decode cX6_helps 46 = .ok (.aload_n 0, 1) := by decide +kernel
theorem dX6_helps_47 : decode cX6_helps 47 = .ok (.iload 4, 2) := by decide +kernel
theorem dX6_helps_49 : decode cX6_helps 49 = .ok (.invokevirtual 180, 3) := by decide +kernel
theorem dX6_helps_52 : decode cX6_helps 52 = .ok (.istore 5, 2) := by decide +kernel
theorem dX6_helps_54 : decode cX6_helps 54 = .ok (.iload_n 2, 1) := by decide +kernel
theorem dX6_helps_55 : decode cX6_helps 55 = .ok (.bipush (-4), 2) := by decide +kernel
theorem dX6_helps_57 : decode cX6_helps 57 = .ok (.if_icmp .eq 9, 3) := by decide +kernel
theorem dX6_helps_60 : decode cX6_helps 60 = .ok (.iload 5, 2) := by decide +kernel
theorem dX6_helps_62 : decode cX6_helps 62 = .ok (.iload_n 3, 1) := by decide +kernel
theorem dX6_helps_63 : decode cX6_helps 63 = .ok (.if_icmp .le 9, 3) := by decide +kernel
theorem dX6_helps_66 : decode cX6_helps 66 = .ok (.iload 4, 2) := by decide +kernel
theorem dX6_helps_68 : decode cX6_helps 68 = .ok (.istore_n 2, 1) := by decide +kernel
theorem dX6_helps_69 : decode cX6_helps 69 = .ok (.iload 5, 2) := by decide +kernel
theorem dX6_helps_71 : decode cX6_helps 71 = .ok (.istore_n 3, 1) := by decide +kernel
theorem dX6_helps_72 : decode cX6_helps 72 = .ok (.iinc 4 1, 3) := by decide +kernel
theorem dX6_helps_75 : decode cX6_helps 75 = .ok (.goto (-55), 3) := by decide +kernel
theorem dX6_helps_78 : decode cX6_helps 78 = .ok (.iload_n 1, 1) := by decide +kernel
theorem dX6_helps_79 : decode cX6_helps 79 = .ok (.ifCond .ne 7, 3) := by decide +kernel
theorem dX6_helps_82 : decode cX6_helps 82 = .ok (.iload_n 2, 1) := by decide +kernel
theorem dX6_helps_83 : decode cX6_helps 83 = .ok (.goto 4, 3) := by decide +kernel
theorem dX6_helps_86 : decode cX6_helps 86 = .ok (.iload_n 3, 1) := by decide +kernel
theorem dX6_helps_87 : decode cX6_helps 87 = .ok (.ireturn, 1) := by decide +kernel
theorem dX6_comersHelpedIn_0 : decode cX6_comersHelpedIn 0 = .ok (.aload_n 0, 1) := by decide +kernel
theorem dX6_comersHelpedIn_1 : decode cX6_comersHelpedIn 1 = .ok (.getfield 23, 3) := by decide +kernel
theorem dX6_comersHelpedIn_4 : decode cX6_comersHelpedIn 4 = .ok (.aload_n 0, 1) := by decide +kernel
theorem dX6_comersHelpedIn_5 : decode cX6_comersHelpedIn 5 = .ok (.getfield 19, 3) := by decide +kernel
theorem dX6_comersHelpedIn_8 : decode cX6_comersHelpedIn 8 = .ok (.invokevirtual 80, 3) := by decide +kernel
theorem dX6_comersHelpedIn_11 : decode cX6_comersHelpedIn 11 = .ok (.aload_n 0, 1) := by decide +kernel
theorem dX6_comersHelpedIn_12 : decode cX6_comersHelpedIn 12 = .ok (.getfield 23, 3) := by decide +kernel
theorem dX6_comersHelpedIn_15 : decode cX6_comersHelpedIn 15 = .ok (.iload_n 1, 1) := by decide +kernel
theorem dX6_comersHelpedIn_16 : decode cX6_comersHelpedIn 16 = .ok (.invokevirtual 183, 3) := by decide +kernel
theorem dX6_comersHelpedIn_19 : decode cX6_comersHelpedIn 19 = .ok (.aload_n 0, 1) := by decide +kernel
theorem dX6_comersHelpedIn_20 : decode cX6_comersHelpedIn 20 = .ok (.getfield 23, 3) := by decide +kernel
theorem dX6_comersHelpedIn_23 : decode cX6_comersHelpedIn 23 = .ok (.bipush 40, 2) := by decide +kernel
theorem dX6_comersHelpedIn_25 : decode cX6_comersHelpedIn 25 = .ok (.invokevirtual 144, 3) := by decide +kernel
theorem dX6_comersHelpedIn_28 : decode cX6_comersHelpedIn 28 = .ok (.aload_n 0, 1) := by decide +kernel
theorem dX6_comersHelpedIn_29 : decode cX6_comersHelpedIn 29 = .ok (.getfield 23, 3) := by decide +kernel
theorem dX6_comersHelpedIn_32 : decode cX6_comersHelpedIn 32 = .ok (.invokevirtual 186, 3) := by decide +kernel
theorem dX6_comersHelpedIn_35 : decode cX6_comersHelpedIn 35 = .ok (.ireturn, 1) := by decide +kernel
theorem dX6_paints_0 : decode cX6_paints 0 = .ok (.iload_n 1, 1) := by decide +kernel
theorem dX6_paints_1 : decode cX6_paints 1 = .ok (.ifCond .lt 8, 3) := by decide +kernel
theorem dX6_paints_4 : decode cX6_paints 4 = .ok (.iload_n 1, 1) := by decide +kernel
theorem dX6_paints_5 : decode cX6_paints 5 = .ok (.iconst 1, 1) := by decide +kernel
theorem dX6_paints_6 : decode cX6_paints 6 = .ok (.if_icmp .le 5, 3) := by decide +kernel
theorem dX6_paints_9 : decode cX6_paints 9 = .ok (.iconst (-1), 1) := by decide +kernel
theorem dX6_paints_10 : decode cX6_paints 10 = .ok (.ireturn, 1) := by decide +kernel
theorem dX6_paints_11 : decode cX6_paints 11 = .ok (.iconst 0, 1) := by decide +kernel
theorem dX6_paints_12 : decode cX6_paints 12 = .ok (.istore_n 2, 1) := by decide +kernel
theorem dX6_paints_13 : decode cX6_paints 13 = .ok (.aload_n 0, 1) := by decide +kernel
theorem dX6_paints_14 : decode cX6_paints 14 = .ok (.iconst 0, 1) := by decide +kernel
theorem dX6_paints_15 : decode cX6_paints 15 = .ok (.invokevirtual 189, 3) := by decide +kernel
theorem dX6_paints_18 : decode cX6_paints 18 = .ok (.istore_n 3, 1) := by decide +kernel
theorem dX6_paints_19 : decode cX6_paints 19 = .ok (.iconst 1, 1) := by decide +kernel
theorem dX6_paints_20 : decode cX6_paints 20 = .ok (.aload_n 0, 1) := by decide +kernel
theorem dX6_paints_21 : decode cX6_paints 21 = .ok (.getfield 19, 3) := by decide +kernel
theorem dX6_paints_24 : decode cX6_paints 24 = .ok (.invokevirtual 74, 3) := by decide +kernel
theorem dX6_paints_27 : decode cX6_paints 27 = .ok (.ishl, 1) := by decide +kernel
theorem dX6_paints_28 : decode cX6_paints 28 = .ok (.istore 4, 2) := by decide +kernel
theorem dX6_paints_30 : decode cX6_paints 30 = .ok (.iconst 1, 1) := by decide +kernel
theorem dX6_paints_31 : decode cX6_paints 31 = .ok (.istore 5, 2) := by decide +kernel
theorem dX6_paints_33 : decode cX6_paints 33 = .ok (.iload 5, 2) := by decide +kernel
theorem dX6_paints_35 : decode cX6_paints 35 = .ok (.iload 4, 2) := by decide +kernel
theorem dX6_paints_37 : decode cX6_paints 37 = .ok (.if_icmp .ge 71, 3) := by decide +kernel
theorem dX6_paints_40 : decode cX6_paints 40 = .ok (.aload_n 0, 1) := by decide +kernel
theorem dX6_paints_41 : decode cX6_paints 41 = .ok (.getfield 19, 3) := by decide +kernel
theorem dX6_paints_44 : decode cX6_paints 44 = .ok (.iload 5, 2) := by decide +kernel
theorem dX6_paints_46 : decode cX6_paints 46 = .ok (.invokevirtual 192, 3) := by decide +kernel
theorem dX6_paints_49 : decode cX6_paints 49 = .ok (.ifCond .eq 53, 3) := by decide +kernel
theorem dX6_paints_52 : decode cX6_paints 52 = .ok (.aload_n 0, 1) := by decide +kernel
theorem dX6_paints_53 : decode cX6_paints 53 = .ok (.iload 5, 2) := by decide +kernel
theorem dX6_paints_55 : decode cX6_paints 55 = .ok (.invokevirtual 189, 3) := by decide +kernel
theorem dX6_paints_58 : decode cX6_paints 58 = .ok (.istore 6, 2) := by decide +kernel
theorem dX6_paints_60 : decode cX6_paints 60 = .ok (.iload 5, 2) := by decide +kernel
theorem dX6_paints_62 : decode cX6_paints 62 = .ok (.invokestatic 195, 3) := by decide +kernel
theorem dX6_paints_65 : decode cX6_paints 65 = .ok (.iload_n 2, 1) := by decide +kernel
theorem dX6_paints_66 : decode cX6_paints 66 = .ok (.invokestatic 195, 3) := by decide +kernel
theorem dX6_paints_69 : decode cX6_paints 69 = .ok (.if_icmp .ge 7, 3) := by decide +kernel
theorem dX6_paints_72 : decode cX6_paints 72 = .ok (.iconst 1, 1) := by decide +kernel
theorem dX6_paints_73 : decode cX6_paints 73 = .ok (.goto 4, 3) := by decide +kernel
theorem dX6_paints_76 : decode cX6_paints 76 = .ok (.iconst 0, 1) := by decide +kernel
theorem dX6_paints_77 : decode cX6_paints 77 = .ok (.istore 7, 2) := by decide +kernel
theorem dX6_paints_79 : decode cX6_paints 79 = .ok (.iload 6, 2) := by decide +kernel
theorem dX6_paints_81 : decode cX6_paints 81 = .ok (.iload_n 3, 1) := by decide +kernel
theorem dX6_paints_82 : decode cX6_paints 82 = .ok (.if_icmp .gt 14, 3) := by decide +kernel
theorem dX6_paints_85 : decode cX6_paints 85 = .ok (.iload 6, 2) := by decide +kernel
theorem dX6_paints_87 : decode cX6_paints 87 = .ok (.iload_n 3, 1) := by decide +kernel
theorem dX6_paints_88 : decode cX6_paints 88 = .ok (.if_icmp .ne 14, 3) := by decide +kernel
theorem dX6_paints_91 : decode cX6_paints 91 = .ok (.iload 7, 2) := by decide +kernel
theorem dX6_paints_93 : decode cX6_paints 93 = .ok (.ifCond .eq 9, 3) := by decide +kernel
theorem dX6_paints_96 : decode cX6_paints 96 = .ok (.iload 5, 2) := by decide +kernel
theorem dX6_paints_98 : decode cX6_paints 98 = .ok (.istore_n 2, 1) := by decide +kernel
theorem dX6_paints_99 : decode cX6_paints 99 = .ok (.iload 6, 2) := by decide +kernel
theorem dX6_paints_101 : decode cX6_paints 101 = .ok (.istore_n 3, 1) := by decide +kernel
theorem dX6_paints_102 : decode cX6_paints 102 = .ok (.iinc 5 1, 3) := by decide +kernel
theorem dX6_paints_105 : decode cX6_paints 105 = .ok (.goto (-72), 3) := by decide +kernel
theorem dX6_paints_108 : decode cX6_paints 108 = .ok (.iload_n 1, 1) := by decide +kernel
theorem dX6_paints_109 : decode cX6_paints 109 = .ok (.ifCond .ne 7, 3) := by decide +kernel
theorem dX6_paints_112 : decode cX6_paints 112 = .ok (.iload_n 2, 1) := by decide +kernel
theorem dX6_paints_113 : decode cX6_paints 113 = .ok (.goto 4, 3) := by decide +kernel
theorem dX6_paints_116 : decode cX6_paints 116 = .ok (.iload_n 3, 1) := by decide +kernel
theorem dX6_paints_117 : decode cX6_paints 117 = .ok (.ireturn, 1) := by decide +kernel
theorem dX6_comersPainted_0 : decode cX6_comersPainted 0 = .ok (.aload_n 0, 1) := by decide +kernel
theorem dX6_comersPainted_1 : decode cX6_comersPainted 1 = .ok (.getfield 23, 3) := by decide +kernel
theorem dX6_comersPainted_4 : decode cX6_comersPainted 4 = .ok (.aload_n 0, 1) := by decide +kernel
theorem dX6_comersPainted_5 : decode cX6_comersPainted 5 = .ok (.getfield 19, 3) := by decide +kernel
theorem dX6_comersPainted_8 : decode cX6_comersPainted 8 = .ok (.invokevirtual 80, 3) := by decide +kernel
theorem dX6_comersPainted_11 : decode cX6_comersPainted 11 = .ok (.iconst 0, 1) := by decide +kernel
theorem dX6_comersPainted_12 : decode cX6_comersPainted 12 = .ok (.istore_n 2, 1) := by decide +kernel
theorem dX6_comersPainted_13 : decode cX6_comersPainted 13 = .ok (.iload_n 2, 1) := by decide +kernel
theorem dX6_comersPainted_14 : decode cX6_comersPainted 14 = .ok (.aload_n 0, 1) := by decide +kernel
theorem dX6_comersPainted_15 : decode cX6_comersPainted 15 = .ok (.getfield 19, 3) := by decide +kernel
theorem dX6_comersPainted_18 : decode cX6_comersPainted 18 = .ok (.invokevirtual 74, 3) := by decide +kernel
theorem dX6_comersPainted_21 : decode cX6_comersPainted 21 = .ok (.if_icmp .ge 26, 3) := by decide +kernel
theorem dX6_comersPainted_24 : decode cX6_comersPainted 24 = .ok (.iload_n 1, 1) := by decide +kernel
theorem dX6_comersPainted_25 : decode cX6_comersPainted 25 = .ok (.iload_n 2, 1) := by decide +kernel
theorem dX6_comersPainted_26 : decode cX6_comersPainted 26 = .ok (.invokestatic 200, 3) := by decide +kernel
theorem dX6_comersPainted_29 : decode cX6_comersPainted 29 = .ok (.ifCond .eq 12, 3) := by decide +kernel
theorem dX6_comersPainted_32 : decode cX6_comersPainted 32 = .ok (.aload_n 0, 1) := by decide +kernel
theorem dX6_comersPainted_33 : decode cX6_comersPainted 33 = .ok (.getfield 23, 3) := by decide +kernel
theorem dX6_comersPainted_36 : decode cX6_comersPainted 36 = .ok (.iload_n 2, 1) := by decide +kernel
theorem dX6_comersPainted_37 : decode cX6_comersPainted 37 = .ok (.invokevirtual 157, 3) := by decide +kernel
theorem dX6_comersPainted_40 : decode cX6_comersPainted 40 = .ok (.pop, 1) := by decide +kernel
theorem dX6_comersPainted_41 : decode cX6_comersPainted 41 = .ok (.iinc 2 1, 3) := by decide +kernel
theorem dX6_comersPainted_44 : decode cX6_comersPainted 44 = .ok (.goto (-31), 3) := by decide +kernel
theorem dX6_comersPainted_47 : decode cX6_comersPainted 47 = .ok (.aload_n 0, 1) := by decide +kernel
theorem dX6_comersPainted_48 : decode cX6_comersPainted 48 = .ok (.getfield 23, 3) := by decide +kernel
theorem dX6_comersPainted_51 : decode cX6_comersPainted 51 = .ok (.bipush 40, 2) := by decide +kernel
theorem dX6_comersPainted_53 : decode cX6_comersPainted 53 = .ok (.invokevirtual 144, 3) := by decide +kernel
theorem dX6_comersPainted_56 : decode cX6_comersPainted 56 = .ok (.aload_n 0, 1) := by decide +kernel
theorem dX6_comersPainted_57 : decode cX6_comersPainted 57 = .ok (.getfield 23, 3) := by decide +kernel
theorem dX6_comersPainted_60 : decode cX6_comersPainted 60 = .ok (.invokevirtual 186, 3) := by decide +kernel
theorem dX6_comersPainted_63 : decode cX6_comersPainted 63 = .ok (.ireturn, 1) := by decide +kernel
theorem dX6_cover_0 : decode cX6_cover 0 = .ok (.iload_n 1, 1) := by decide +kernel
theorem dX6_cover_1 : decode cX6_cover 1 = .ok (.ifCond .lt 8, 3) := by decide +kernel
theorem dX6_cover_4 : decode cX6_cover 4 = .ok (.iload_n 1, 1) := by decide +kernel
theorem dX6_cover_5 : decode cX6_cover 5 = .ok (.iconst 1, 1) := by decide +kernel
theorem dX6_cover_6 : decode cX6_cover 6 = .ok (.if_icmp .le 5, 3) := by decide +kernel
theorem dX6_cover_9 : decode cX6_cover 9 = .ok (.iconst (-1), 1) := by decide +kernel
theorem dX6_cover_10 : decode cX6_cover 10 = .ok (.ireturn, 1) := by decide +kernel
theorem dX6_cover_11 : decode cX6_cover 11 = .ok (.bipush (-4), 2) := by decide +kernel
theorem dX6_cover_13 : decode cX6_cover 13 = .ok (.istore_n 2, 1) := by decide +kernel
theorem dX6_cover_14 : decode cX6_cover 14 = .ok (.iconst 1, 1) := by decide +kernel
theorem dX6_cover_15 : decode cX6_cover 15 = .ok (.aload_n 0, 1) := by decide +kernel
theorem dX6_cover_16 : decode cX6_cover 16 = .ok (.getfield 19, 3) := by decide +kernel
theorem dX6_cover_19 : decode cX6_cover 19 = .ok (.invokevirtual 174, 3) := by decide +kernel
theorem dX6_cover_22 : decode cX6_cover 22 = .ok (.ishl, 1) := by decide +kernel
theorem dX6_cover_23 : decode cX6_cover 23 = .ok (.istore_n 3, 1) := by decide +kernel
theorem dX6_cover_24 : decode cX6_cover 24 = .ok (.iconst 0, 1) := by decide +kernel
theorem dX6_cover_25 : decode cX6_cover 25 = .ok (.istore 4, 2) := by decide +kernel
theorem dX6_cover_27 : decode cX6_cover 27 = .ok (.iload 4, 2) := by decide +kernel
theorem dX6_cover_29 : decode cX6_cover 29 = .ok (.iload_n 3, 1) := by decide +kernel
theorem dX6_cover_30 : decode cX6_cover 30 = .ok (.if_icmp .ge 51, 3) := by decide +kernel
theorem dX6_cover_33 : decode cX6_cover 33 = .ok (.iload_n 2, 1) := by decide +kernel
theorem dX6_cover_34 : decode cX6_cover 34 = .ok (.bipush (-4), 2) := by decide +kernel
theorem dX6_cover_36 : decode cX6_cover 36 = .ok (.if_icmp .eq 15, 3) := by decide +kernel
theorem dX6_cover_39 : decode cX6_cover 39 = .ok (.iload 4, 2) := by decide +kernel
theorem dX6_cover_41 : decode cX6_cover 41 = .ok (.invokestatic 195, 3) := by decide +kernel
theorem dX6_cover_44 : decode cX6_cover 44 = .ok (.iload_n 2, 1) := by decide +kernel
theorem dX6_cover_45 : decode cX6_cover 45 = .ok (.invokestatic 195, 3) := by decide +kernel
theorem dX6_cover_48 : decode cX6_cover 48 = .ok (.if_icmp .ge 7, 3) := by decide +kernel
theorem dX6_cover_51 : decode cX6_cover 51 = .ok (.iconst 1, 1) := by decide +kernel
theorem dX6_cover_52 : decode cX6_cover 52 = .ok (.goto 4, 3) := by decide +kernel
theorem dX6_cover_55 : decode cX6_cover 55 = .ok (.iconst 0, 1) := by decide +kernel
theorem dX6_cover_56 : decode cX6_cover 56 = .ok (.istore 5, 2) := by decide +kernel
theorem dX6_cover_58 : decode cX6_cover 58 = .ok (.iload 5, 2) := by decide +kernel
theorem dX6_cover_60 : decode cX6_cover 60 = .ok (.ifCond .eq 15, 3) := by decide +kernel
theorem dX6_cover_63 : decode cX6_cover 63 = .ok (.aload_n 0, 1) := by decide +kernel
theorem dX6_cover_64 : decode cX6_cover 64 = .ok (.iload 4, 2) := by decide +kernel
theorem dX6_cover_66 : decode cX6_cover 66 = .ok (.invokevirtual 203, 3) := by decide +kernel
theorem dX6_cover_69 : decode cX6_cover 69 = .ok (.ifCond .eq 6, 3) := by decide +kernel
theorem dX6_cover_72 : decode cX6_cover 72 = .ok (.iload 4, 2) := by decide +kernel
theorem dX6_cover_74 : decode cX6_cover 74 = .ok (.istore_n 2, 1) := by decide +kernel
theorem dX6_cover_75 : decode cX6_cover 75 = .ok (.iinc 4 1, 3) := by decide +kernel
theorem dX6_cover_78 : decode cX6_cover 78 = .ok (.goto (-51), 3) := by decide +kernel
theorem dX6_cover_81 : decode cX6_cover 81 = .ok (.iload_n 2, 1) := by decide +kernel
theorem dX6_cover_82 : decode cX6_cover 82 = .ok (.bipush (-4), 2) := by decide +kernel
theorem dX6_cover_84 : decode cX6_cover 84 = .ok (.if_icmp .ne 6, 3) := by decide +kernel
theorem dX6_cover_87 : decode cX6_cover 87 = .ok (.bipush (-4), 2) := by decide +kernel
theorem dX6_cover_89 : decode cX6_cover 89 = .ok (.ireturn, 1) := by decide +kernel
theorem dX6_cover_90 : decode cX6_cover 90 = .ok (.iload_n 1, 1) := by decide +kernel
theorem dX6_cover_91 : decode cX6_cover 91 = .ok (.ifCond .ne 10, 3) := by decide +kernel
theorem dX6_cover_94 : decode cX6_cover 94 = .ok (.iload_n 2, 1) := by decide +kernel
theorem dX6_cover_95 : decode cX6_cover 95 = .ok (.invokestatic 195, 3) := by decide +kernel
theorem dX6_cover_98 : decode cX6_cover 98 = .ok (.goto 4, 3) := by decide +kernel
theorem dX6_cover_101 : decode cX6_cover 101 = .ok (.iload_n 2, 1) := by decide +kernel
theorem dX6_cover_102 : decode cX6_cover 102 = .ok (.ireturn, 1) := by decide +kernel
theorem dX6_isCover_0 : decode cX6_isCover 0 = .ok (.aload_n 0, 1) := by decide +kernel
theorem dX6_isCover_1 : decode cX6_isCover 1 = .ok (.getfield 23, 3) := by decide +kernel
theorem dX6_isCover_4 : decode cX6_isCover 4 = .ok (.aload_n 0, 1) := by decide +kernel
theorem dX6_isCover_5 : decode cX6_isCover 5 = .ok (.getfield 19, 3) := by decide +kernel
theorem dX6_isCover_8 : decode cX6_isCover 8 = .ok (.invokevirtual 80, 3) := by decide +kernel
theorem dX6_isCover_11 : decode cX6_isCover 11 = .ok (.aload_n 0, 1) := by decide +kernel
theorem dX6_isCover_12 : decode cX6_isCover 12 = .ok (.getfield 23, 3) := by decide +kernel
theorem dX6_isCover_15 : decode cX6_isCover 15 = .ok (.invokevirtual 206, 3) := by decide +kernel
theorem dX6_isCover_18 : decode cX6_isCover 18 = .ok (.iconst 0, 1) := by decide +kernel
theorem dX6_isCover_19 : decode cX6_isCover 19 = .ok (.istore_n 2, 1) := by decide +kernel
theorem dX6_isCover_20 : decode cX6_isCover 20 = .ok (.iload_n 2, 1) := by decide +kernel
theorem dX6_isCover_21 : decode cX6_isCover 21 = .ok (.aload_n 0, 1) := by decide +kernel
theorem dX6_isCover_22 : decode cX6_isCover 22 = .ok (.getfield 19, 3) := by decide +kernel
theorem dX6_isCover_25 : decode cX6_isCover 25 = .ok (.invokevirtual 174, 3) := by decide +kernel
theorem dX6_isCover_28 : decode cX6_isCover 28 = .ok (.if_icmp .ge 25, 3) := by decide +kernel
theorem dX6_isCover_31 : decode cX6_isCover 31 = .ok (.iload_n 1, 1) := by decide +kernel
theorem dX6_isCover_32 : decode cX6_isCover 32 = .ok (.iload_n 2, 1) := by decide +kernel
theorem dX6_isCover_33 : decode cX6_isCover 33 = .ok (.invokestatic 200, 3) := by decide +kernel
theorem dX6_isCover_36 : decode cX6_isCover 36 = .ok (.ifCond .eq 11, 3) := by decide +kernel
theorem dX6_isCover_39 : decode cX6_isCover 39 = .ok (.aload_n 0, 1) := by decide +kernel
theorem dX6_isCover_40 : decode cX6_isCover 40 = .ok (.getfield 23, 3) := by decide +kernel
theorem dX6_isCover_43 : decode cX6_isCover 43 = .ok (.iload_n 2, 1) := by decide +kernel
theorem dX6_isCover_44 : decode cX6_isCover 44 = .ok (.invokevirtual 183, 3) := by decide +kernel
theorem dX6_isCover_47 : decode cX6_isCover 47 = .ok (.iinc 2 1, 3) := by decide +kernel
theorem dX6_isCover_50 : decode cX6_isCover 50 = .ok (.goto (-30), 3) := by decide +kernel
theorem dX6_isCover_53 : decode cX6_isCover 53 = .ok (.aload_n 0, 1) := by decide +kernel
theorem dX6_isCover_54 : decode cX6_isCover 54 = .ok (.getfield 23, 3) := by decide +kernel
theorem dX6_isCover_57 : decode cX6_isCover 57 = .ok (.bipush 40, 2) := by decide +kernel
theorem dX6_isCover_59 : decode cX6_isCover 59 = .ok (.invokevirtual 144, 3) := by decide +kernel
theorem dX6_isCover_62 : decode cX6_isCover 62 = .ok (.aload_n 0, 1) := by decide +kernel
theorem dX6_isCover_63 : decode cX6_isCover 63 = .ok (.getfield 23, 3) := by decide +kernel
theorem dX6_isCover_66 : decode cX6_isCover 66 = .ok (.invokevirtual 186, 3) := by decide +kernel
theorem dX6_isCover_69 : decode cX6_isCover 69 = .ok (.aload_n 0, 1) := by decide +kernel
theorem dX6_isCover_70 : decode cX6_isCover 70 = .ok (.getfield 23, 3) := by decide +kernel
theorem dX6_isCover_73 : decode cX6_isCover 73 = .ok (.invokevirtual 77, 3) := by decide +kernel
theorem dX6_isCover_76 : decode cX6_isCover 76 = .ok (.if_icmp .ne 7, 3) := by decide +kernel
theorem dX6_isCover_79 : decode cX6_isCover 79 = .ok (.iconst 1, 1) := by decide +kernel
theorem dX6_isCover_80 : decode cX6_isCover 80 = .ok (.goto 4, 3) := by decide +kernel
theorem dX6_isCover_83 : decode cX6_isCover 83 = .ok (.iconst 0, 1) := by decide +kernel
theorem dX6_isCover_84 : decode cX6_isCover 84 = .ok (.ireturn, 1) := by decide +kernel
theorem dX6_far_0 : decode cX6_far 0 = .ok (.aload_n 0, 1) := by decide +kernel
theorem dX6_far_1 : decode cX6_far 1 = .ok (.getfield 19, 3) := by decide +kernel
theorem dX6_far_4 : decode cX6_far 4 = .ok (.iload_n 1, 1) := by decide +kernel
theorem dX6_far_5 : decode cX6_far 5 = .ok (.invokevirtual 114, 3) := by decide +kernel
theorem dX6_far_8 : decode cX6_far 8 = .ok (.ifCond .eq 14, 3) := by decide +kernel
theorem dX6_far_11 : decode cX6_far 11 = .ok (.aload_n 0, 1) := by decide +kernel
theorem dX6_far_12 : decode cX6_far 12 = .ok (.getfield 19, 3) := by decide +kernel
theorem dX6_far_15 : decode cX6_far 15 = .ok (.iload_n 2, 1) := by decide +kernel
theorem dX6_far_16 : decode cX6_far 16 = .ok (.invokevirtual 114, 3) := by decide +kernel
theorem dX6_far_19 : decode cX6_far 19 = .ok (.ifCond .ne 5, 3) := by decide +kernel
theorem dX6_far_22 : decode cX6_far 22 = .ok (.iconst (-1), 1) := by decide +kernel
theorem dX6_far_23 : decode cX6_far 23 = .ok (.ireturn, 1) := by decide +kernel
theorem dX6_far_24 : decode cX6_far 24 = .ok (.aload_n 0, 1) := by decide +kernel
theorem dX6_far_25 : decode cX6_far 25 = .ok (.getfield 19, 3) := by decide +kernel
theorem dX6_far_28 : decode cX6_far 28 = .ok (.invokevirtual 91, 3) := by decide +kernel
theorem dX6_far_31 : decode cX6_far 31 = .ok (.iload_n 1, 1) := by decide +kernel
theorem dX6_far_32 : decode cX6_far 32 = .ok (.iload_n 2, 1) := by decide +kernel
theorem dX6_far_33 : decode cX6_far 33 = .ok (.invokevirtual 209, 3) := by decide +kernel
theorem dX6_far_36 : decode cX6_far 36 = .ok (.ireturn, 1) := by decide +kernel
theorem dX6_told_0 : decode cX6_told 0 = .ok (.aload_n 0, 1) := by decide +kernel
theorem dX6_told_1 : decode cX6_told 1 = .ok (.getfield 19, 3) := by decide +kernel
theorem dX6_told_4 : decode cX6_told 4 = .ok (.iload_n 1, 1) := by decide +kernel
theorem dX6_told_5 : decode cX6_told 5 = .ok (.invokevirtual 114, 3) := by decide +kernel
theorem dX6_told_8 : decode cX6_told 8 = .ok (.ifCond .eq 24, 3) := by decide +kernel
theorem dX6_told_11 : decode cX6_told 11 = .ok (.aload_n 0, 1) := by decide +kernel
theorem dX6_told_12 : decode cX6_told 12 = .ok (.getfield 19, 3) := by decide +kernel
theorem dX6_told_15 : decode cX6_told 15 = .ok (.iload_n 2, 1) := by decide +kernel
theorem dX6_told_16 : decode cX6_told 16 = .ok (.invokevirtual 114, 3) := by decide +kernel
theorem dX6_told_19 : decode cX6_told 19 = .ok (.ifCond .eq 13, 3) := by decide +kernel
theorem dX6_told_22 : decode cX6_told 22 = .ok (.iload_n 3, 1) := by decide +kernel
theorem dX6_told_23 : decode cX6_told 23 = .ok (.ifCond .lt 9, 3) := by decide +kernel
theorem dX6_told_26 : decode cX6_told 26 = .ok (.iload_n 3, 1) := by decide +kernel
theorem dX6_told_27 : decode cX6_told 27 = .ok (.bipush 72, 2) := by decide +kernel
theorem dX6_told_29 : decode cX6_told 29 = .ok (.if_icmp .le 5, 3) := by decide +kernel
theorem dX6_told_32 : decode cX6_told 32 = .ok (.iconst (-1), 1) := by decide +kernel
theorem dX6_told_33 : decode cX6_told 33 = .ok (.ireturn, 1) := by decide +kernel
theorem dX6_told_34 : decode cX6_told 34 = .ok (.aload_n 0, 1) := by decide +kernel
theorem dX6_told_35 : decode cX6_told 35 = .ok (.getfield 41, 3) := by decide +kernel
theorem dX6_told_38 : decode cX6_told 38 = .ok (.iload_n 1, 1) := by decide +kernel
theorem dX6_told_39 : decode cX6_told 39 = .ok (.iload_n 2, 1) := by decide +kernel
theorem dX6_told_40 : decode cX6_told 40 = .ok (.iload_n 3, 1) := by decide +kernel
theorem dX6_told_41 : decode cX6_told 41 = .ok (.invokevirtual 212, 3) := by decide +kernel
theorem dX6_told_44 : decode cX6_told 44 = .ok (.ireturn, 1) := by decide +kernel
theorem dX6_stood_0 : decode cX6_stood 0 = .ok (.iconst 0, 1) := by decide +kernel
theorem dX6_stood_1 : decode cX6_stood 1 = .ok (.istore_n 1, 1) := by decide +kernel
theorem dX6_stood_2 : decode cX6_stood 2 = .ok (.iconst 0, 1) := by decide +kernel
theorem dX6_stood_3 : decode cX6_stood 3 = .ok (.istore_n 2, 1) := by decide +kernel
theorem dX6_stood_4 : decode cX6_stood 4 = .ok (.iload_n 2, 1) := by decide +kernel
theorem dX6_stood_5 : decode cX6_stood 5 = .ok (.aload_n 0, 1) := by decide +kernel
theorem dX6_stood_6 : decode cX6_stood 6 = .ok (.getfield 19, 3) := by decide +kernel
theorem dX6_stood_9 : decode cX6_stood 9 = .ok (.invokevirtual 174, 3) := by decide +kernel
theorem dX6_stood_12 : decode cX6_stood 12 = .ok (.if_icmp .ge 23, 3) := by decide +kernel
theorem dX6_stood_15 : decode cX6_stood 15 = .ok (.aload_n 0, 1) := by decide +kernel
theorem dX6_stood_16 : decode cX6_stood 16 = .ok (.iload_n 2, 1) := by decide +kernel
theorem dX6_stood_17 : decode cX6_stood 17 = .ok (.invokevirtual 216, 3) := by decide +kernel
theorem dX6_stood_20 : decode cX6_stood 20 = .ok (.ifCond .eq 9, 3) := by decide +kernel
theorem dX6_stood_23 : decode cX6_stood 23 = .ok (.iload_n 1, 1) := by decide +kernel
theorem dX6_stood_24 : decode cX6_stood 24 = .ok (.iconst 1, 1) := by decide +kernel
theorem dX6_stood_25 : decode cX6_stood 25 = .ok (.iload_n 2, 1) := by decide +kernel
theorem dX6_stood_26 : decode cX6_stood 26 = .ok (.ishl, 1) := by decide +kernel
theorem dX6_stood_27 : decode cX6_stood 27 = .ok (.ior, 1) := by decide +kernel
theorem dX6_stood_28 : decode cX6_stood 28 = .ok (.istore_n 1, 1) := by decide +kernel
theorem dX6_stood_29 : decode cX6_stood 29 = .ok (.iinc 2 1, 3) := by decide +kernel
theorem dX6_stood_32 : decode cX6_stood 32 = .ok (.goto (-28), 3) := by decide +kernel
theorem dX6_stood_35 : decode cX6_stood 35 = .ok (.iload_n 1, 1) := by decide +kernel
theorem dX6_stood_36 : decode cX6_stood 36 = .ok (.ireturn, 1) := by decide +kernel
theorem dX6_tellsAll_0 : decode cX6_tellsAll 0 = .ok (.aload_n 0, 1) := by decide +kernel
theorem dX6_tellsAll_1 : decode cX6_tellsAll 1 = .ok (.getfield 19, 3) := by decide +kernel
theorem dX6_tellsAll_4 : decode cX6_tellsAll 4 = .ok (.invokevirtual 91, 3) := by decide +kernel
theorem dX6_tellsAll_7 : decode cX6_tellsAll 7 = .ok (.astore_n 2, 1) := by decide +kernel
theorem dX6_tellsAll_8 : decode cX6_tellsAll 8 = .ok (.iconst 0, 1) := by decide +kernel
theorem dX6_tellsAll_9 : decode cX6_tellsAll 9 = .ok (.istore_n 3, 1) := by decide +kernel
theorem dX6_tellsAll_10 : decode cX6_tellsAll 10 = .ok (.iload_n 3, 1) := by decide +kernel
theorem dX6_tellsAll_11 : decode cX6_tellsAll 11 = .ok (.aload_n 0, 1) := by decide +kernel
theorem dX6_tellsAll_12 : decode cX6_tellsAll 12 = .ok (.getfield 41, 3) := by decide +kernel
theorem dX6_tellsAll_15 : decode cX6_tellsAll 15 = .ok (.invokevirtual 219, 3) := by decide +kernel
theorem dX6_tellsAll_18 : decode cX6_tellsAll 18 = .ok (.if_icmp .ge 72, 3) := by decide +kernel
theorem dX6_tellsAll_21 : decode cX6_tellsAll 21 = .ok (.aload_n 0, 1) := by decide +kernel
theorem dX6_tellsAll_22 : decode cX6_tellsAll 22 = .ok (.getfield 41, 3) := by decide +kernel
theorem dX6_tellsAll_25 : decode cX6_tellsAll 25 = .ok (.iload_n 3, 1) := by decide +kernel
theorem dX6_tellsAll_26 : decode cX6_tellsAll 26 = .ok (.iconst 0, 1) := by decide +kernel
theorem dX6_tellsAll_27 : decode cX6_tellsAll 27 = .ok (.invokevirtual 220, 3) := by decide +kernel
theorem dX6_tellsAll_30 : decode cX6_tellsAll 30 = .ok (.istore 4, 2) := by decide +kernel
theorem dX6_tellsAll_32 : decode cX6_tellsAll 32 = .ok (.aload_n 2, 1) := by decide +kernel
theorem dX6_tellsAll_33 : decode cX6_tellsAll 33 = .ok (.iload_n 1, 1) := by decide +kernel
theorem dX6_tellsAll_34 : decode cX6_tellsAll 34 = .ok (.iload 4, 2) := by decide +kernel
theorem dX6_tellsAll_36 : decode cX6_tellsAll 36 = .ok (.invokevirtual 223, 3) := by decide +kernel
theorem dX6_tellsAll_39 : decode cX6_tellsAll 39 = .ok (.aload_n 0, 1) := by decide +kernel
theorem dX6_tellsAll_40 : decode cX6_tellsAll 40 = .ok (.getfield 41, 3) := by decide +kernel
theorem dX6_tellsAll_43 : decode cX6_tellsAll 43 = .ok (.iload_n 3, 1) := by decide +kernel
theorem dX6_tellsAll_44 : decode cX6_tellsAll 44 = .ok (.iconst 1, 1) := by decide +kernel
theorem dX6_tellsAll_45 : decode cX6_tellsAll 45 = .ok (.invokevirtual 220, 3) := by decide +kernel
theorem dX6_tellsAll_48 : decode cX6_tellsAll 48 = .ok (.if_icmp .ne 7, 3) := by decide +kernel
theorem dX6_tellsAll_51 : decode cX6_tellsAll 51 = .ok (.iconst 1, 1) := by decide +kernel
theorem dX6_tellsAll_52 : decode cX6_tellsAll 52 = .ok (.goto 4, 3) := by decide +kernel
theorem dX6_tellsAll_55 : decode cX6_tellsAll 55 = .ok (.iconst 0, 1) := by decide +kernel
theorem dX6_tellsAll_56 : decode cX6_tellsAll 56 = .ok (.istore 5, 2) := by decide +kernel
theorem dX6_tellsAll_58 : decode cX6_tellsAll 58 = .ok (.iload 5, 2) := by decide +kernel
theorem dX6_tellsAll_60 : decode cX6_tellsAll 60 = .ok (.ifCond .eq 22, 3) := by decide +kernel
theorem dX6_tellsAll_63 : decode cX6_tellsAll 63 = .ok (.aload_n 2, 1) := by decide +kernel
theorem dX6_tellsAll_64 : decode cX6_tellsAll 64 = .ok (.iload_n 1, 1) := by decide +kernel
theorem dX6_tellsAll_65 : decode cX6_tellsAll 65 = .ok (.iload 4, 2) := by decide +kernel
theorem dX6_tellsAll_67 : decode cX6_tellsAll 67 = .ok (.invokevirtual 209, 3) := by decide +kernel
theorem dX6_tellsAll_70 : decode cX6_tellsAll 70 = .ok (.aload_n 0, 1) := by decide +kernel
theorem dX6_tellsAll_71 : decode cX6_tellsAll 71 = .ok (.getfield 41, 3) := by decide +kernel
theorem dX6_tellsAll_74 : decode cX6_tellsAll 74 = .ok (.iload_n 3, 1) := by decide +kernel
theorem dX6_tellsAll_75 : decode cX6_tellsAll 75 = .ok (.iconst 2, 1) := by decide +kernel
theorem dX6_tellsAll_76 : decode cX6_tellsAll 76 = .ok (.invokevirtual 220, 3) := by decide +kernel
theorem dX6_tellsAll_79 : decode cX6_tellsAll 79 = .ok (.if_icmp .eq 5, 3) := by decide +kernel
theorem dX6_tellsAll_82 : decode cX6_tellsAll 82 = .ok (.iconst 0, 1) := by decide +kernel
theorem dX6_tellsAll_83 : decode cX6_tellsAll 83 = .ok (.ireturn, 1) := by decide +kernel
theorem dX6_tellsAll_84 : decode cX6_tellsAll 84 = .ok (.iinc 3 1, 3) := by decide +kernel
theorem dX6_tellsAll_87 : decode cX6_tellsAll 87 = .ok (.goto (-77), 3) := by decide +kernel
theorem dX6_tellsAll_90 : decode cX6_tellsAll 90 = .ok (.iconst 1, 1) := by decide +kernel
theorem dX6_tellsAll_91 : decode cX6_tellsAll 91 = .ok (.ireturn, 1) := by decide +kernel
theorem dX6_next_0 : decode cX6_next 0 = .ok (.aload_n 0, 1) := by decide +kernel
theorem dX6_next_1 : decode cX6_next 1 = .ok (.invokevirtual 226, 3) := by decide +kernel
theorem dX6_next_4 : decode cX6_next 4 = .ok (.istore_n 1, 1) := by decide +kernel
theorem dX6_next_5 : decode cX6_next 5 = .ok (.iload_n 1, 1) := by decide +kernel
theorem dX6_next_6 : decode cX6_next 6 = .ok (.ifCond .ne 6, 3) := by decide +kernel
theorem dX6_next_9 : decode cX6_next 9 = .ok (.bipush (-4), 2) := by decide +kernel
theorem dX6_next_11 : decode cX6_next 11 = .ok (.ireturn, 1) := by decide +kernel
theorem dX6_next_12 : decode cX6_next 12 = .ok (.bipush (-4), 2) := by decide +kernel
theorem dX6_next_14 : decode cX6_next 14 = .ok (.istore_n 2, 1) := by decide +kernel
theorem dX6_next_15 : decode cX6_next 15 = .ok (.iconst 0, 1) := by decide +kernel
theorem dX6_next_16 : decode cX6_next 16 = .ok (.istore_n 3, 1) := by decide +kernel
theorem dX6_next_17 : decode cX6_next 17 = .ok (.iconst 0, 1) := by decide +kernel
theorem dX6_next_18 : decode cX6_next 18 = .ok (.istore 4, 2) := by decide +kernel
theorem dX6_next_20 : decode cX6_next 20 = .ok (.iload 4, 2) := by decide +kernel
theorem dX6_next_22 : decode cX6_next 22 = .ok (.aload_n 0, 1) := by decide +kernel
theorem dX6_next_23 : decode cX6_next 23 = .ok (.getfield 19, 3) := by decide +kernel
theorem dX6_next_26 : decode cX6_next 26 = .ok (.invokevirtual 174, 3) := by decide +kernel
theorem dX6_next_29 : decode cX6_next 29 = .ok (.if_icmp .ge 36, 3) := by decide +kernel
theorem dX6_next_32 : decode cX6_next 32 = .ok (.aload_n 0, 1) := by decide +kernel
theorem dX6_next_33 : decode cX6_next 33 = .ok (.iload_n 1, 1) := by decide +kernel
theorem dX6_next_34 : decode cX6_next 34 = .ok (.iload 4, 2) := by decide +kernel
theorem dX6_next_36 : decode cX6_next 36 = .ok (.invokevirtual 229, 3) := by decide +kernel
theorem dX6_next_39 : decode cX6_next 39 = .ok (.istore 5, 2) := by decide +kernel
theorem dX6_next_41 : decode cX6_next 41 = .ok (.iload_n 2, 1) := by decide +kernel
theorem dX6_next_42 : decode cX6_next 42 = .ok (.bipush (-4), 2) := by decide +kernel
theorem dX6_next_44 : decode cX6_next 44 = .ok (.if_icmp .eq 9, 3) := by decide +kernel
theorem dX6_next_47 : decode cX6_next 47 = .ok (.iload 5, 2) := by decide +kernel
theorem dX6_next_49 : decode cX6_next 49 = .ok (.iload_n 3, 1) := by decide +kernel
theorem dX6_next_50 : decode cX6_next 50 = .ok (.if_icmp .ge 9, 3) := by decide +kernel
theorem dX6_next_53 : decode cX6_next 53 = .ok (.iload 4, 2) := by decide +kernel
theorem dX6_next_55 : decode cX6_next 55 = .ok (.istore_n 2, 1) := by decide +kernel
theorem dX6_next_56 : decode cX6_next 56 = .ok (.iload 5, 2) := by decide +kernel
theorem dX6_next_58 : decode cX6_next 58 = .ok (.istore_n 3, 1) := by decide +kernel
theorem dX6_next_59 : decode cX6_next 59 = .ok (.iinc 4 1, 3) := by decide +kernel
theorem dX6_next_62 : decode cX6_next 62 = .ok (.goto (-42), 3) := by decide +kernel
theorem dX6_next_65 : decode cX6_next 65 = .ok (.iload_n 2, 1) := by decide +kernel
theorem dX6_next_66 : decode cX6_next 66 = .ok (.ireturn, 1) := by decide +kernel
theorem dX6_mostAlike_0 : decode cX6_mostAlike 0 = .ok (.iconst 0, 1) := by decide +kernel
theorem dX6_mostAlike_1 : decode cX6_mostAlike 1 = .ok (.istore_n 3, 1) := by decide +kernel
theorem dX6_mostAlike_2 : decode cX6_mostAlike 2 = .ok (.iconst 0, 1) := by decide +kernel
theorem dX6_mostAlike_3 : decode cX6_mostAlike 3 = .ok (.istore 4, 2) := by decide +kernel
theorem dX6_mostAlike_5 : decode cX6_mostAlike 5 = .ok (.iload 4, 2) := by decide +kernel
theorem dX6_mostAlike_7 : decode cX6_mostAlike 7 = .ok (.aload_n 0, 1) := by decide +kernel
theorem dX6_mostAlike_8 : decode cX6_mostAlike 8 = .ok (.getfield 19, 3) := by decide +kernel
theorem dX6_mostAlike_11 : decode cX6_mostAlike 11 = .ok (.invokevirtual 174, 3) := by decide +kernel
theorem dX6_mostAlike_14 : decode cX6_mostAlike 14 = .ok (.if_icmp .ge 31, 3) := by decide +kernel
theorem dX6_mostAlike_17 : decode cX6_mostAlike 17 = .ok (.iload_n 1, 1) := by decide +kernel
theorem dX6_mostAlike_18 : decode cX6_mostAlike 18 = .ok (.iload 4, 2) := by decide +kernel
theorem dX6_mostAlike_20 : decode cX6_mostAlike 20 = .ok (.invokestatic 200, 3) := by decide +kernel
theorem dX6_mostAlike_23 : decode cX6_mostAlike 23 = .ok (.ifCond .eq 16, 3) := by decide +kernel
theorem dX6_mostAlike_26 : decode cX6_mostAlike 26 = .ok (.iload_n 3, 1) := by decide +kernel
theorem dX6_mostAlike_27 : decode cX6_mostAlike 27 = .ok (.aload_n 0, 1) := by decide +kernel
theorem dX6_mostAlike_28 : decode cX6_mostAlike 28 = .ok (.iload_n 1, 1) := by decide +kernel
theorem dX6_mostAlike_29 : decode cX6_mostAlike 29 = .ok (.iload 4, 2) := by decide +kernel
theorem dX6_mostAlike_31 : decode cX6_mostAlike 31 = .ok (.iload_n 2, 1) := by decide +kernel
theorem dX6_mostAlike_32 : decode cX6_mostAlike 32 = .ok (.invokevirtual 232, 3) := by decide +kernel
theorem dX6_mostAlike_35 : decode cX6_mostAlike 35 = .ok (.invokestatic 235, 3) := by decide +kernel
theorem dX6_mostAlike_38 : decode cX6_mostAlike 38 = .ok (.istore_n 3, 1) := by decide +kernel
theorem dX6_mostAlike_39 : decode cX6_mostAlike 39 = .ok (.iinc 4 1, 3) := by decide +kernel
theorem dX6_mostAlike_42 : decode cX6_mostAlike 42 = .ok (.goto (-37), 3) := by decide +kernel
theorem dX6_mostAlike_45 : decode cX6_mostAlike 45 = .ok (.iload_n 3, 1) := by decide +kernel
theorem dX6_mostAlike_46 : decode cX6_mostAlike 46 = .ok (.ireturn, 1) := by decide +kernel
theorem dX6_alikeWith_0 : decode cX6_alikeWith 0 = .ok (.iconst 0, 1) := by decide +kernel
theorem dX6_alikeWith_1 : decode cX6_alikeWith 1 = .ok (.istore 4, 2) := by decide +kernel
theorem dX6_alikeWith_3 : decode cX6_alikeWith 3 = .ok (.iconst 0, 1) := by decide +kernel
theorem dX6_alikeWith_4 : decode cX6_alikeWith 4 = .ok (.istore 5, 2) := by decide +kernel
theorem dX6_alikeWith_6 : decode cX6_alikeWith 6 = .ok (.iload 5, 2) := by decide +kernel
theorem dX6_alikeWith_8 : decode cX6_alikeWith 8 = .ok (.aload_n 0, 1) := by decide +kernel
theorem dX6_alikeWith_9 : decode cX6_alikeWith 9 = .ok (.getfield 19, 3) := by decide +kernel
theorem dX6_alikeWith_12 : decode cX6_alikeWith 12 = .ok (.invokevirtual 174, 3) := by decide +kernel
theorem dX6_alikeWith_15 : decode cX6_alikeWith 15 = .ok (.if_icmp .ge 32, 3) := by decide +kernel
theorem dX6_alikeWith_18 : decode cX6_alikeWith 18 = .ok (.iload_n 1, 1) := by decide +kernel
theorem dX6_alikeWith_19 : decode cX6_alikeWith 19 = .ok (.iload 5, 2) := by decide +kernel
theorem dX6_alikeWith_21 : decode cX6_alikeWith 21 = .ok (.invokestatic 200, 3) := by decide +kernel
theorem dX6_alikeWith_24 : decode cX6_alikeWith 24 = .ok (.ifCond .eq 17, 3) := by decide +kernel
theorem dX6_alikeWith_27 : decode cX6_alikeWith 27 = .ok (.aload_n 0, 1) := by decide +kernel
theorem dX6_alikeWith_28 : decode cX6_alikeWith 28 = .ok (.iload_n 2, 1) := by decide +kernel
theorem dX6_alikeWith_29 : decode cX6_alikeWith 29 = .ok (.iload 5, 2) := by decide +kernel
theorem dX6_alikeWith_31 : decode cX6_alikeWith 31 = .ok (.iload_n 3, 1) := by decide +kernel
theorem dX6_alikeWith_32 : decode cX6_alikeWith 32 = .ok (.invokevirtual 240, 3) := by decide +kernel
theorem dX6_alikeWith_35 : decode cX6_alikeWith 35 = .ok (.ifCond .eq 6, 3) := by decide +kernel
theorem dX6_alikeWith_38 : decode cX6_alikeWith 38 = .ok (.iinc 4 1, 3) := by decide +kernel
theorem dX6_alikeWith_41 : decode cX6_alikeWith 41 = .ok (.iinc 5 1, 3) := by decide +kernel
theorem dX6_alikeWith_44 : decode cX6_alikeWith 44 = .ok (.goto (-38), 3) := by decide +kernel
theorem dX6_alikeWith_47 : decode cX6_alikeWith 47 = .ok (.iload 4, 2) := by decide +kernel
theorem dX6_alikeWith_49 : decode cX6_alikeWith 49 = .ok (.ireturn, 1) := by decide +kernel
theorem dX6_tellAlike_0 : decode cX6_tellAlike 0 = .ok (.aload_n 0, 1) := by decide +kernel
theorem dX6_tellAlike_1 : decode cX6_tellAlike 1 = .ok (.getfield 19, 3) := by decide +kernel
theorem dX6_tellAlike_4 : decode cX6_tellAlike 4 = .ok (.invokevirtual 91, 3) := by decide +kernel
theorem dX6_tellAlike_7 : decode cX6_tellAlike 7 = .ok (.astore 4, 2) := by decide +kernel
theorem dX6_tellAlike_9 : decode cX6_tellAlike 9 = .ok (.aload 4, 2) := by decide +kernel
theorem dX6_tellAlike_11 : decode cX6_tellAlike 11 = .ok (.iload_n 1, 1) := by decide +kernel
theorem dX6_tellAlike_12 : decode cX6_tellAlike 12 = .ok (.iload_n 3, 1) := by decide +kernel
theorem dX6_tellAlike_13 : decode cX6_tellAlike 13 = .ok (.invokevirtual 223, 3) := by decide +kernel
theorem dX6_tellAlike_16 : decode cX6_tellAlike 16 = .ok (.istore 5, 2) := by decide +kernel
theorem dX6_tellAlike_18 : decode cX6_tellAlike 18 = .ok (.iload 5, 2) := by decide +kernel
theorem dX6_tellAlike_20 : decode cX6_tellAlike 20 = .ok (.aload 4, 2) := by decide +kernel
theorem dX6_tellAlike_22 : decode cX6_tellAlike 22 = .ok (.iload_n 2, 1) := by decide +kernel
theorem dX6_tellAlike_23 : decode cX6_tellAlike 23 = .ok (.iload_n 3, 1) := by decide +kernel
theorem dX6_tellAlike_24 : decode cX6_tellAlike 24 = .ok (.invokevirtual 223, 3) := by decide +kernel
theorem dX6_tellAlike_27 : decode cX6_tellAlike 27 = .ok (.if_icmp .eq 5, 3) := by decide +kernel
theorem dX6_tellAlike_30 : decode cX6_tellAlike 30 = .ok (.iconst 0, 1) := by decide +kernel
theorem dX6_tellAlike_31 : decode cX6_tellAlike 31 = .ok (.ireturn, 1) := by decide +kernel
theorem dX6_tellAlike_32 : decode cX6_tellAlike 32 = .ok (.iload 5, 2) := by decide +kernel
theorem dX6_tellAlike_34 : decode cX6_tellAlike 34 = .ok (.bipush (-4), 2) := by decide +kernel
theorem dX6_tellAlike_36 : decode cX6_tellAlike 36 = .ok (.if_icmp .eq 20, 3) := by decide +kernel
theorem dX6_tellAlike_39 : decode cX6_tellAlike 39 = .ok (.aload 4, 2) := by decide +kernel
theorem dX6_tellAlike_41 : decode cX6_tellAlike 41 = .ok (.iload_n 1, 1) := by decide +kernel
theorem dX6_tellAlike_42 : decode cX6_tellAlike 42 = .ok (.iload_n 3, 1) := by decide +kernel
theorem dX6_tellAlike_43 : decode cX6_tellAlike 43 = .ok (.invokevirtual 209, 3) := by decide +kernel
theorem dX6_tellAlike_46 : decode cX6_tellAlike 46 = .ok (.aload 4, 2) := by decide +kernel
theorem dX6_tellAlike_48 : decode cX6_tellAlike 48 = .ok (.iload_n 2, 1) := by decide +kernel
theorem dX6_tellAlike_49 : decode cX6_tellAlike 49 = .ok (.iload_n 3, 1) := by decide +kernel
theorem dX6_tellAlike_50 : decode cX6_tellAlike 50 = .ok (.invokevirtual 209, 3) := by decide +kernel
theorem dX6_tellAlike_53 : decode cX6_tellAlike 53 = .ok (.if_icmp .ne 7, 3) := by decide +kernel
theorem dX6_tellAlike_56 : decode cX6_tellAlike 56 = .ok (.iconst 1, 1) := by decide +kernel
theorem dX6_tellAlike_57 : decode cX6_tellAlike 57 = .ok (.goto 4, 3) := by decide +kernel
theorem dX6_tellAlike_60 : decode cX6_tellAlike 60 = .ok (.iconst 0, 1) := by decide +kernel
theorem dX6_tellAlike_61 : decode cX6_tellAlike 61 = .ok (.ireturn, 1) := by decide +kernel
theorem dX6_seen_0 : decode cX6_seen 0 = .ok (.aload_n 0, 1) := by decide +kernel
theorem dX6_seen_1 : decode cX6_seen 1 = .ok (.getfield 19, 3) := by decide +kernel
theorem dX6_seen_4 : decode cX6_seen 4 = .ok (.iload_n 1, 1) := by decide +kernel
theorem dX6_seen_5 : decode cX6_seen 5 = .ok (.invokevirtual 101, 3) := by decide +kernel
theorem dX6_seen_8 : decode cX6_seen 8 = .ok (.ifCond .eq 25, 3) := by decide +kernel
theorem dX6_seen_11 : decode cX6_seen 11 = .ok (.aload_n 0, 1) := by decide +kernel
theorem dX6_seen_12 : decode cX6_seen 12 = .ok (.getfield 19, 3) := by decide +kernel
theorem dX6_seen_15 : decode cX6_seen 15 = .ok (.iload_n 2, 1) := by decide +kernel
theorem dX6_seen_16 : decode cX6_seen 16 = .ok (.invokevirtual 114, 3) := by decide +kernel
theorem dX6_seen_19 : decode cX6_seen 19 = .ok (.ifCond .eq 14, 3) := by decide +kernel
theorem dX6_seen_22 : decode cX6_seen 22 = .ok (.aload_n 0, 1) := by decide +kernel
theorem dX6_seen_23 : decode cX6_seen 23 = .ok (.getfield 19, 3) := by decide +kernel
theorem dX6_seen_26 : decode cX6_seen 26 = .ok (.iload_n 3, 1) := by decide +kernel
theorem dX6_seen_27 : decode cX6_seen 27 = .ok (.invokevirtual 114, 3) := by decide +kernel
theorem dX6_seen_30 : decode cX6_seen 30 = .ok (.ifCond .ne 5, 3) := by decide +kernel
theorem dX6_seen_33 : decode cX6_seen 33 = .ok (.iconst (-1), 1) := by decide +kernel
theorem dX6_seen_34 : decode cX6_seen 34 = .ok (.ireturn, 1) := by decide +kernel
theorem dX6_seen_35 : decode cX6_seen 35 = .ok (.aload_n 0, 1) := by decide +kernel
theorem dX6_seen_36 : decode cX6_seen 36 = .ok (.getfield 45, 3) := by decide +kernel
theorem dX6_seen_39 : decode cX6_seen 39 = .ok (.iload_n 1, 1) := by decide +kernel
theorem dX6_seen_40 : decode cX6_seen 40 = .ok (.iload_n 2, 1) := by decide +kernel
theorem dX6_seen_41 : decode cX6_seen 41 = .ok (.iload_n 3, 1) := by decide +kernel
theorem dX6_seen_42 : decode cX6_seen 42 = .ok (.invokevirtual 212, 3) := by decide +kernel
theorem dX6_seen_45 : decode cX6_seen 45 = .ok (.ireturn, 1) := by decide +kernel
theorem dX6_kinds_0 : decode cX6_kinds 0 = .ok (.aload_n 0, 1) := by decide +kernel
theorem dX6_kinds_1 : decode cX6_kinds 1 = .ok (.getfield 19, 3) := by decide +kernel
theorem dX6_kinds_4 : decode cX6_kinds 4 = .ok (.iload_n 1, 1) := by decide +kernel
theorem dX6_kinds_5 : decode cX6_kinds 5 = .ok (.invokevirtual 101, 3) := by decide +kernel
theorem dX6_kinds_8 : decode cX6_kinds 8 = .ok (.ifCond .ne 5, 3) := by decide +kernel
theorem dX6_kinds_11 : decode cX6_kinds 11 = .ok (.iconst (-1), 1) := by decide +kernel
theorem dX6_kinds_12 : decode cX6_kinds 12 = .ok (.ireturn, 1) := by decide +kernel
theorem dX6_kinds_13 : decode cX6_kinds 13 = .ok (.aload_n 0, 1) := by decide +kernel
theorem dX6_kinds_14 : decode cX6_kinds 14 = .ok (.getfield 23, 3) := by decide +kernel
theorem dX6_kinds_17 : decode cX6_kinds 17 = .ok (.aload_n 0, 1) := by decide +kernel
theorem dX6_kinds_18 : decode cX6_kinds 18 = .ok (.getfield 19, 3) := by decide +kernel
theorem dX6_kinds_21 : decode cX6_kinds 21 = .ok (.invokevirtual 80, 3) := by decide +kernel
theorem dX6_kinds_24 : decode cX6_kinds 24 = .ok (.iconst 0, 1) := by decide +kernel
theorem dX6_kinds_25 : decode cX6_kinds 25 = .ok (.istore_n 2, 1) := by decide +kernel
theorem dX6_kinds_26 : decode cX6_kinds 26 = .ok (.iconst 0, 1) := by decide +kernel
theorem dX6_kinds_27 : decode cX6_kinds 27 = .ok (.istore_n 3, 1) := by decide +kernel
theorem dX6_kinds_28 : decode cX6_kinds 28 = .ok (.iload_n 3, 1) := by decide +kernel
theorem dX6_kinds_29 : decode cX6_kinds 29 = .ok (.iconst 4, 1) := by decide +kernel
theorem dX6_kinds_30 : decode cX6_kinds 30 = .ok (.if_icmp .ge 32, 3) := by decide +kernel
theorem dX6_kinds_33 : decode cX6_kinds 33 = .ok (.aload_n 0, 1) := by decide +kernel
theorem dX6_kinds_34 : decode cX6_kinds 34 = .ok (.getfield 23, 3) := by decide +kernel
theorem dX6_kinds_37 : decode cX6_kinds 37 = .ok (.iload_n 1, 1) := by decide +kernel
theorem dX6_kinds_38 : decode cX6_kinds 38 = .ok (.iload_n 3, 1) := by decide +kernel
theorem dX6_kinds_39 : decode cX6_kinds 39 = .ok (.invokevirtual 244, 3) := by decide +kernel
theorem dX6_kinds_42 : decode cX6_kinds 42 = .ok (.aload_n 0, 1) := by decide +kernel
theorem dX6_kinds_43 : decode cX6_kinds 43 = .ok (.iload_n 1, 1) := by decide +kernel
theorem dX6_kinds_44 : decode cX6_kinds 44 = .ok (.invokevirtual 247, 3) := by decide +kernel
theorem dX6_kinds_47 : decode cX6_kinds 47 = .ok (.ifCond .eq 9, 3) := by decide +kernel
theorem dX6_kinds_50 : decode cX6_kinds 50 = .ok (.iload_n 2, 1) := by decide +kernel
theorem dX6_kinds_51 : decode cX6_kinds 51 = .ok (.iconst 1, 1) := by decide +kernel
theorem dX6_kinds_52 : decode cX6_kinds 52 = .ok (.iload_n 3, 1) := by decide +kernel
theorem dX6_kinds_53 : decode cX6_kinds 53 = .ok (.ishl, 1) := by decide +kernel
theorem dX6_kinds_54 : decode cX6_kinds 54 = .ok (.ior, 1) := by decide +kernel
theorem dX6_kinds_55 : decode cX6_kinds 55 = .ok (.istore_n 2, 1) := by decide +kernel
theorem dX6_kinds_56 : decode cX6_kinds 56 = .ok (.iinc 3 1, 3) := by decide +kernel
theorem dX6_kinds_59 : decode cX6_kinds 59 = .ok (.goto (-31), 3) := by decide +kernel
theorem dX6_kinds_62 : decode cX6_kinds 62 = .ok (.iload_n 2, 1) := by decide +kernel
theorem dX6_kinds_63 : decode cX6_kinds 63 = .ok (.ireturn, 1) := by decide +kernel
theorem dX6_fitsSightings_0 : decode cX6_fitsSightings 0 = .ok (.iconst 0, 1) := by decide +kernel
theorem dX6_fitsSightings_1 : decode cX6_fitsSightings 1 = .ok (.istore_n 2, 1) := by decide +kernel
theorem dX6_fitsSightings_2 : decode cX6_fitsSightings 2 = .ok (.iload_n 2, 1) := by decide +kernel
theorem dX6_fitsSightings_3 : decode cX6_fitsSightings 3 = .ok (.aload_n 0, 1) := by decide +kernel
theorem dX6_fitsSightings_4 : decode cX6_fitsSightings 4 = .ok (.getfield 45, 3) := by decide +kernel
theorem dX6_fitsSightings_7 : decode cX6_fitsSightings 7 = .ok (.invokevirtual 219, 3) := by decide +kernel
theorem dX6_fitsSightings_10 : decode cX6_fitsSightings 10 = .ok (.if_icmp .ge 63, 3) := by decide +kernel
theorem dX6_fitsSightings_13 : decode cX6_fitsSightings 13 = .ok (.aload_n 0, 1) := by decide +kernel
theorem dX6_fitsSightings_14 : decode cX6_fitsSightings 14 = .ok (.getfield 45, 3) := by decide +kernel
theorem dX6_fitsSightings_17 : decode cX6_fitsSightings 17 = .ok (.iload_n 2, 1) := by decide +kernel
theorem dX6_fitsSightings_18 : decode cX6_fitsSightings 18 = .ok (.iconst 0, 1) := by decide +kernel
theorem dX6_fitsSightings_19 : decode cX6_fitsSightings 19 = .ok (.invokevirtual 220, 3) := by decide +kernel
theorem dX6_fitsSightings_22 : decode cX6_fitsSightings 22 = .ok (.iload_n 1, 1) := by decide +kernel
theorem dX6_fitsSightings_23 : decode cX6_fitsSightings 23 = .ok (.if_icmp .ne 7, 3) := by decide +kernel
theorem dX6_fitsSightings_26 : decode cX6_fitsSightings 26 = .ok (.iconst 1, 1) := by decide +kernel
theorem dX6_fitsSightings_27 : decode cX6_fitsSightings 27 = .ok (.goto 4, 3) := by decide +kernel
theorem dX6_fitsSightings_30 : decode cX6_fitsSightings 30 = .ok (.iconst 0, 1) := by decide +kernel
theorem dX6_fitsSightings_31 : decode cX6_fitsSightings 31 = .ok (.istore_n 3, 1) := by decide +kernel
theorem dX6_fitsSightings_32 : decode cX6_fitsSightings 32 = .ok (.iload_n 3, 1) := by decide +kernel
theorem dX6_fitsSightings_33 : decode cX6_fitsSightings 33 = .ok (.ifCond .eq 34, 3) := by decide +kernel
theorem dX6_fitsSightings_36 : decode cX6_fitsSightings 36 = .ok (.aload_n 0, 1) := by decide +kernel
theorem dX6_fitsSightings_37 : decode cX6_fitsSightings 37 = .ok (.getfield 23, 3) := by decide +kernel
theorem dX6_fitsSightings_40 : decode cX6_fitsSightings 40 = .ok (.iload_n 1, 1) := by decide +kernel
theorem dX6_fitsSightings_41 : decode cX6_fitsSightings 41 = .ok (.aload_n 0, 1) := by decide +kernel
theorem dX6_fitsSightings_42 : decode cX6_fitsSightings 42 = .ok (.getfield 45, 3) := by decide +kernel
theorem dX6_fitsSightings_45 : decode cX6_fitsSightings 45 = .ok (.iload_n 2, 1) := by decide +kernel
theorem dX6_fitsSightings_46 : decode cX6_fitsSightings 46 = .ok (.iconst 1, 1) := by decide +kernel
theorem dX6_fitsSightings_47 : decode cX6_fitsSightings 47 = .ok (.invokevirtual 220, 3) := by decide +kernel
theorem dX6_fitsSightings_50 : decode cX6_fitsSightings 50 = .ok (.invokevirtual 123, 3) := by decide +kernel
theorem dX6_fitsSightings_53 : decode cX6_fitsSightings 53 = .ok (.aload_n 0, 1) := by decide +kernel
theorem dX6_fitsSightings_54 : decode cX6_fitsSightings 54 = .ok (.getfield 45, 3) := by decide +kernel
theorem dX6_fitsSightings_57 : decode cX6_fitsSightings 57 = .ok (.iload_n 2, 1) := by decide +kernel
theorem dX6_fitsSightings_58 : decode cX6_fitsSightings 58 = .ok (.iconst 2, 1) := by decide +kernel
theorem dX6_fitsSightings_59 : decode cX6_fitsSightings 59 = .ok (.invokevirtual 220, 3) := by decide +kernel
theorem dX6_fitsSightings_62 : decode cX6_fitsSightings 62 = .ok (.if_icmp .eq 5, 3) := by decide +kernel
theorem dX6_fitsSightings_65 : decode cX6_fitsSightings 65 = .ok (.iconst 0, 1) := by decide +kernel
theorem dX6_fitsSightings_66 : decode cX6_fitsSightings 66 = .ok (.ireturn, 1) := by decide +kernel
theorem dX6_fitsSightings_67 : decode cX6_fitsSightings 67 = .ok (.iinc 2 1, 3) := by decide +kernel
theorem dX6_fitsSightings_70 : decode cX6_fitsSightings 70 = .ok (.goto (-68), 3) := by decide +kernel
theorem dX6_fitsSightings_73 : decode cX6_fitsSightings 73 = .ok (.iconst 1, 1) := by decide +kernel
theorem dX6_fitsSightings_74 : decode cX6_fitsSightings 74 = .ok (.ireturn, 1) := by decide +kernel
theorem dX6_forget_0 : decode cX6_forget 0 = .ok (.aload_n 0, 1) := by decide +kernel
theorem dX6_forget_1 : decode cX6_forget 1 = .ok (.getfield 41, 3) := by decide +kernel
theorem dX6_forget_4 : decode cX6_forget 4 = .ok (.invokevirtual 86, 3) := by decide +kernel
theorem dX6_forget_7 : decode cX6_forget 7 = .ok (.aload_n 0, 1) := by decide +kernel
theorem dX6_forget_8 : decode cX6_forget 8 = .ok (.getfield 45, 3) := by decide +kernel
theorem dX6_forget_11 : decode cX6_forget 11 = .ok (.invokevirtual 86, 3) := by decide +kernel
theorem dX6_forget_14 : decode cX6_forget 14 = .ok (.iadd, 1) := by decide +kernel
theorem dX6_forget_15 : decode cX6_forget 15 = .ok (.ireturn, 1) := by decide +kernel
theorem dX6_likely_0 : decode cX6_likely 0 = .ok (.aload_n 0, 1) := by decide +kernel
theorem dX6_likely_1 : decode cX6_likely 1 = .ok (.getfield 19, 3) := by decide +kernel
theorem dX6_likely_4 : decode cX6_likely 4 = .ok (.iload_n 1, 1) := by decide +kernel
theorem dX6_likely_5 : decode cX6_likely 5 = .ok (.invokevirtual 126, 3) := by decide +kernel
theorem dX6_likely_8 : decode cX6_likely 8 = .ok (.ifCond .eq 22, 3) := by decide +kernel
theorem dX6_likely_11 : decode cX6_likely 11 = .ok (.iload_n 2, 1) := by decide +kernel
theorem dX6_likely_12 : decode cX6_likely 12 = .ok (.ifCond .lt 18, 3) := by decide +kernel
theorem dX6_likely_15 : decode cX6_likely 15 = .ok (.iload_n 2, 1) := by decide +kernel
theorem dX6_likely_16 : decode cX6_likely 16 = .ok (.bipush 10, 2) := by decide +kernel
theorem dX6_likely_18 : decode cX6_likely 18 = .ok (.if_icmp .gt 12, 3) := by decide +kernel
theorem dX6_likely_21 : decode cX6_likely 21 = .ok (.iload_n 3, 1) := by decide +kernel
theorem dX6_likely_22 : decode cX6_likely 22 = .ok (.ifCond .lt 8, 3) := by decide +kernel
theorem dX6_likely_25 : decode cX6_likely 25 = .ok (.iload_n 3, 1) := by decide +kernel
theorem dX6_likely_26 : decode cX6_likely 26 = .ok (.iconst 1, 1) := by decide +kernel
theorem dX6_likely_27 : decode cX6_likely 27 = .ok (.if_icmp .le 5, 3) := by decide +kernel
theorem dX6_likely_30 : decode cX6_likely 30 = .ok (.iconst (-1), 1) := by decide +kernel
theorem dX6_likely_31 : decode cX6_likely 31 = .ok (.ireturn, 1) := by decide +kernel
theorem dX6_likely_32 : decode cX6_likely 32 = .ok (.iconst 0, 1) := by decide +kernel
theorem dX6_likely_33 : decode cX6_likely 33 = .ok (.istore 4, 2) := by decide +kernel
theorem dX6_likely_35 : decode cX6_likely 35 = .ok (.iconst 0, 1) := by decide +kernel
theorem dX6_likely_36 : decode cX6_likely 36 = .ok (.istore 5, 2) := by decide +kernel
theorem dX6_likely_38 : decode cX6_likely 38 = .ok (.iconst 1, 1) := by decide +kernel
theorem dX6_likely_39 : decode cX6_likely 39 = .ok (.aload_n 0, 1) := by decide +kernel
theorem dX6_likely_40 : decode cX6_likely 40 = .ok (.getfield 19, 3) := by decide +kernel
theorem dX6_likely_43 : decode cX6_likely 43 = .ok (.invokevirtual 74, 3) := by decide +kernel
theorem dX6_likely_46 : decode cX6_likely 46 = .ok (.ishl, 1) := by decide +kernel
theorem dX6_likely_47 : decode cX6_likely 47 = .ok (.istore 6, 2) := by decide +kernel
theorem dX6_likely_49 : decode cX6_likely 49 = .ok (.iconst 0, 1) := by decide +kernel
theorem dX6_likely_50 : decode cX6_likely 50 = .ok (.istore 7, 2) := by decide +kernel
theorem dX6_likely_52 : decode cX6_likely 52 = .ok (.iload 7, 2) := by decide +kernel
theorem dX6_likely_54 : decode cX6_likely 54 = .ok (.iload 6, 2) := by decide +kernel
theorem dX6_likely_56 : decode cX6_likely 56 = .ok (.if_icmp .ge 59, 3) := by decide +kernel
theorem dX6_likely_59 : decode cX6_likely 59 = .ok (.aload_n 0, 1) := by decide +kernel
theorem dX6_likely_60 : decode cX6_likely 60 = .ok (.getfield 19, 3) := by decide +kernel
theorem dX6_likely_63 : decode cX6_likely 63 = .ok (.iload 7, 2) := by decide +kernel
theorem dX6_likely_65 : decode cX6_likely 65 = .ok (.invokevirtual 192, 3) := by decide +kernel
theorem dX6_likely_68 : decode cX6_likely 68 = .ok (.ifCond .eq 41, 3) := by decide +kernel
theorem dX6_likely_71 : decode cX6_likely 71 = .ok (.aload_n 0, 1) := by decide +kernel
theorem dX6_likely_72 : decode cX6_likely 72 = .ok (.iload 7, 2) := by decide +kernel
theorem dX6_likely_74 : decode cX6_likely 74 = .ok (.iload_n 2, 1) := by decide +kernel
theorem dX6_likely_75 : decode cX6_likely 75 = .ok (.invokevirtual 250, 3) := by decide +kernel
theorem dX6_likely_78 : decode cX6_likely 78 = .ok (.istore 8, 2) := by decide +kernel
theorem dX6_likely_80 : decode cX6_likely 80 = .ok (.iload 5, 2) := by decide +kernel
theorem dX6_likely_82 : decode cX6_likely 82 = .ok (.iload 8, 2) := by decide +kernel
theorem dX6_likely_84 : decode cX6_likely 84 = .ok (.iadd, 1) := by decide +kernel
theorem dX6_likely_85 : decode cX6_likely 85 = .ok (.istore 5, 2) := by decide +kernel
theorem dX6_likely_87 : decode cX6_likely 87 = .ok (.iload 8, 2) := by decide +kernel
theorem dX6_likely_89 : decode cX6_likely 89 = .ok (.ifCond .le 20, 3) := by decide +kernel
theorem dX6_likely_92 : decode cX6_likely 92 = .ok (.aload_n 0, 1) := by decide +kernel
theorem dX6_likely_93 : decode cX6_likely 93 = .ok (.iload_n 1, 1) := by decide +kernel
theorem dX6_likely_94 : decode cX6_likely 94 = .ok (.iload 7, 2) := by decide +kernel
theorem dX6_likely_96 : decode cX6_likely 96 = .ok (.invokevirtual 253, 3) := by decide +kernel
theorem dX6_likely_99 : decode cX6_likely 99 = .ok (.ifCond .eq 10, 3) := by decide +kernel
theorem dX6_likely_102 : decode cX6_likely 102 = .ok (.iload 4, 2) := by decide +kernel
theorem dX6_likely_104 : decode cX6_likely 104 = .ok (.iload 8, 2) := by decide +kernel
theorem dX6_likely_106 : decode cX6_likely 106 = .ok (.iadd, 1) := by decide +kernel
theorem dX6_likely_107 : decode cX6_likely 107 = .ok (.istore 4, 2) := by decide +kernel
theorem dX6_likely_109 : decode cX6_likely 109 = .ok (.iinc 7 1, 3) := by decide +kernel
theorem dX6_likely_112 : decode cX6_likely 112 = .ok (.goto (-60), 3) := by decide +kernel
theorem dX6_likely_115 : decode cX6_likely 115 = .ok (.iload 4, 2) := by decide +kernel
theorem dX6_likely_117 : decode cX6_likely 117 = .ok (.iload 5, 2) := by decide +kernel
theorem dX6_likely_119 : decode cX6_likely 119 = .ok (.invokestatic 256, 3) := by decide +kernel
theorem dX6_likely_122 : decode cX6_likely 122 = .ok (.istore 7, 2) := by decide +kernel
theorem dX6_likely_124 : decode cX6_likely 124 = .ok (.iload 7, 2) := by decide +kernel
theorem dX6_likely_126 : decode cX6_likely 126 = .ok (.iconst 1, 1) := by decide +kernel
theorem dX6_likely_127 : decode cX6_likely 127 = .ok (.if_icmp .ge 5, 3) := by decide +kernel
theorem dX6_likely_130 : decode cX6_likely 130 = .ok (.iconst (-1), 1) := by decide +kernel
theorem dX6_likely_131 : decode cX6_likely 131 = .ok (.ireturn, 1) := by decide +kernel
theorem dX6_likely_132 : decode cX6_likely 132 = .ok (.iload_n 3, 1) := by decide +kernel
theorem dX6_likely_133 : decode cX6_likely 133 = .ok (.ifCond .ne 11, 3) := by decide +kernel
theorem dX6_likely_136 : decode cX6_likely 136 = .ok (.iload 4, 2) := by decide +kernel
theorem dX6_likely_138 : decode cX6_likely 138 = .ok (.iload 7, 2) := by decide +kernel
theorem dX6_likely_140 : decode cX6_likely 140 = .ok (.idiv, 1) := by decide +kernel
theorem dX6_likely_141 : decode cX6_likely 141 = .ok (.goto 8, 3) := by decide +kernel
theorem dX6_likely_144 : decode cX6_likely 144 = .ok (.iload 5, 2) := by decide +kernel
theorem dX6_likely_146 : decode cX6_likely 146 = .ok (.iload 7, 2) := by decide +kernel
theorem dX6_likely_148 : decode cX6_likely 148 = .ok (.idiv, 1) := by decide +kernel
theorem dX6_likely_149 : decode cX6_likely 149 = .ok (.ireturn, 1) := by decide +kernel
theorem dX6_weightOf_0 : decode cX6_weightOf 0 = .ok (.iconst 1, 1) := by decide +kernel
theorem dX6_weightOf_1 : decode cX6_weightOf 1 = .ok (.istore_n 3, 1) := by decide +kernel
theorem dX6_weightOf_2 : decode cX6_weightOf 2 = .ok (.iconst 0, 1) := by decide +kernel
theorem dX6_weightOf_3 : decode cX6_weightOf 3 = .ok (.istore 4, 2) := by decide +kernel
theorem dX6_weightOf_5 : decode cX6_weightOf 5 = .ok (.iload 4, 2) := by decide +kernel
theorem dX6_weightOf_7 : decode cX6_weightOf 7 = .ok (.aload_n 0, 1) := by decide +kernel
theorem dX6_weightOf_8 : decode cX6_weightOf 8 = .ok (.getfield 19, 3) := by decide +kernel
theorem dX6_weightOf_11 : decode cX6_weightOf 11 = .ok (.invokevirtual 74, 3) := by decide +kernel
theorem dX6_weightOf_14 : decode cX6_weightOf 14 = .ok (.if_icmp .ge 41, 3) := by decide +kernel
theorem dX6_weightOf_17 : decode cX6_weightOf 17 = .ok (.aload_n 0, 1) := by decide +kernel
theorem dX6_weightOf_18 : decode cX6_weightOf 18 = .ok (.getfield 19, 3) := by decide +kernel
theorem dX6_weightOf_21 : decode cX6_weightOf 21 = .ok (.iload 4, 2) := by decide +kernel
theorem dX6_weightOf_23 : decode cX6_weightOf 23 = .ok (.invokevirtual 154, 3) := by decide +kernel
theorem dX6_weightOf_26 : decode cX6_weightOf 26 = .ok (.ifCond .ne 23, 3) := by decide +kernel
theorem dX6_weightOf_29 : decode cX6_weightOf 29 = .ok (.iload_n 3, 1) := by decide +kernel
theorem dX6_weightOf_30 : decode cX6_weightOf 30 = .ok (.iload_n 1, 1) := by decide +kernel
theorem dX6_weightOf_31 : decode cX6_weightOf 31 = .ok (.iload 4, 2) := by decide +kernel
theorem dX6_weightOf_33 : decode cX6_weightOf 33 = .ok (.invokestatic 200, 3) := by decide +kernel
theorem dX6_weightOf_36 : decode cX6_weightOf 36 = .ok (.ifCond .eq 7, 3) := by decide +kernel
theorem dX6_weightOf_39 : decode cX6_weightOf 39 = .ok (.iload_n 2, 1) := by decide +kernel
theorem dX6_weightOf_40 : decode cX6_weightOf 40 = .ok (.goto 7, 3) := by decide +kernel
theorem dX6_weightOf_43 : decode cX6_weightOf 43 = .ok (.bipush 10, 2) := by decide +kernel
theorem dX6_weightOf_45 : decode cX6_weightOf 45 = .ok (.iload_n 2, 1) := by decide +kernel
theorem dX6_weightOf_46 : decode cX6_weightOf 46 = .ok (.isub, 1) := by decide +kernel
theorem dX6_weightOf_47 : decode cX6_weightOf 47 = .ok (.imul, 1) := by decide +kernel
theorem dX6_weightOf_48 : decode cX6_weightOf 48 = .ok (.istore_n 3, 1) := by decide +kernel
theorem dX6_weightOf_49 : decode cX6_weightOf 49 = .ok (.iinc 4 1, 3) := by decide +kernel
theorem dX6_weightOf_52 : decode cX6_weightOf 52 = .ok (.goto (-47), 3) := by decide +kernel
theorem dX6_weightOf_55 : decode cX6_weightOf 55 = .ok (.iload_n 3, 1) := by decide +kernel
theorem dX6_weightOf_56 : decode cX6_weightOf 56 = .ok (.ireturn, 1) := by decide +kernel
theorem dX6_comesTwisted_0 : decode cX6_comesTwisted 0 = .ok (.aload_n 0, 1) := by decide +kernel
theorem dX6_comesTwisted_1 : decode cX6_comesTwisted 1 = .ok (.getfield 23, 3) := by decide +kernel
theorem dX6_comesTwisted_4 : decode cX6_comesTwisted 4 = .ok (.aload_n 0, 1) := by decide +kernel
theorem dX6_comesTwisted_5 : decode cX6_comesTwisted 5 = .ok (.getfield 19, 3) := by decide +kernel
theorem dX6_comesTwisted_8 : decode cX6_comesTwisted 8 = .ok (.invokevirtual 80, 3) := by decide +kernel
theorem dX6_comesTwisted_11 : decode cX6_comesTwisted 11 = .ok (.aload_n 0, 1) := by decide +kernel
theorem dX6_comesTwisted_12 : decode cX6_comesTwisted 12 = .ok (.getfield 23, 3) := by decide +kernel
theorem dX6_comesTwisted_15 : decode cX6_comesTwisted 15 = .ok (.iload_n 2, 1) := by decide +kernel
theorem dX6_comesTwisted_16 : decode cX6_comesTwisted 16 = .ok (.invokevirtual 259, 3) := by decide +kernel
theorem dX6_comesTwisted_19 : decode cX6_comesTwisted 19 = .ok (.aload_n 0, 1) := by decide +kernel
theorem dX6_comesTwisted_20 : decode cX6_comesTwisted 20 = .ok (.getfield 23, 3) := by decide +kernel
theorem dX6_comesTwisted_23 : decode cX6_comesTwisted 23 = .ok (.bipush 40, 2) := by decide +kernel
theorem dX6_comesTwisted_25 : decode cX6_comesTwisted 25 = .ok (.invokevirtual 144, 3) := by decide +kernel
theorem dX6_comesTwisted_28 : decode cX6_comesTwisted 28 = .ok (.aload_n 0, 1) := by decide +kernel
theorem dX6_comesTwisted_29 : decode cX6_comesTwisted 29 = .ok (.getfield 23, 3) := by decide +kernel
theorem dX6_comesTwisted_32 : decode cX6_comesTwisted 32 = .ok (.iload_n 1, 1) := by decide +kernel
theorem dX6_comesTwisted_33 : decode cX6_comesTwisted 33 = .ok (.invokevirtual 135, 3) := by decide +kernel
theorem dX6_comesTwisted_36 : decode cX6_comesTwisted 36 = .ok (.ireturn, 1) := by decide +kernel
theorem dX6_commonPart_0 : decode cX6_commonPart 0 = .ok (.iload_n 1, 1) := by decide +kernel
theorem dX6_commonPart_1 : decode cX6_commonPart 1 = .ok (.istore_n 2, 1) := by decide +kernel
theorem dX6_commonPart_2 : decode cX6_commonPart 2 = .ok (.iload_n 0, 1) := by decide +kernel
theorem dX6_commonPart_3 : decode cX6_commonPart 3 = .ok (.istore_n 3, 1) := by decide +kernel
theorem dX6_commonPart_4 : decode cX6_commonPart 4 = .ok (.iconst 0, 1) := by decide +kernel
theorem dX6_commonPart_5 : decode cX6_commonPart 5 = .ok (.istore 4, 2) := by decide +kernel
theorem dX6_commonPart_7 : decode cX6_commonPart 7 = .ok (.iload 4, 2) := by decide +kernel
theorem dX6_commonPart_9 : decode cX6_commonPart 9 = .ok (.bipush 64, 2) := by decide +kernel
theorem dX6_commonPart_11 : decode cX6_commonPart 11 = .ok (.if_icmp .ge 23, 3) := by decide +kernel
theorem dX6_commonPart_14 : decode cX6_commonPart 14 = .ok (.iload_n 3, 1) := by decide +kernel
theorem dX6_commonPart_15 : decode cX6_commonPart 15 = .ok (.ifCond .le 19, 3) := by decide +kernel
theorem dX6_commonPart_18 : decode cX6_commonPart 18 = .ok (.iload_n 2, 1) := by decide +kernel
theorem dX6_commonPart_19 : decode cX6_commonPart 19 = .ok (.iload_n 3, 1) := by decide +kernel
theorem dX6_commonPart_20 : decode cX6_commonPart 20 = .ok (.irem, 1) := by decide +kernel
theorem dX6_commonPart_21 : decode cX6_commonPart 21 = .ok (.istore 5, 2) := by decide +kernel
theorem dX6_commonPart_23 : decode cX6_commonPart 23 = .ok (.iload_n 3, 1) := by decide +kernel
theorem dX6_commonPart_24 : decode cX6_commonPart 24 = .ok (.istore_n 2, 1) := by decide +kernel
theorem dX6_commonPart_25 : decode cX6_commonPart 25 = .ok (.iload 5, 2) := by decide +kernel
theorem dX6_commonPart_27 : decode cX6_commonPart 27 = .ok (.istore_n 3, 1) := by decide +kernel
theorem dX6_commonPart_28 : decode cX6_commonPart 28 = .ok (.iinc 4 1, 3) := by decide +kernel
theorem dX6_commonPart_31 : decode cX6_commonPart 31 = .ok (.goto (-24), 3) := by decide +kernel
theorem dX6_commonPart_34 : decode cX6_commonPart 34 = .ok (.iload_n 2, 1) := by decide +kernel
theorem dX6_commonPart_35 : decode cX6_commonPart 35 = .ok (.ireturn, 1) := by decide +kernel
theorem dX6_century_0 : decode cX6_century 0 = .ok (.iload_n 1, 1) := by decide +kernel
theorem dX6_century_1 : decode cX6_century 1 = .ok (.ifCond .lt 30, 3) := by decide +kernel
theorem dX6_century_4 : decode cX6_century 4 = .ok (.iload_n 1, 1) := by decide +kernel
theorem dX6_century_5 : decode cX6_century 5 = .ok (.sipush 9999, 3) := by decide +kernel
theorem dX6_century_8 : decode cX6_century 8 = .ok (.if_icmp .gt 23, 3) := by decide +kernel
theorem dX6_century_11 : decode cX6_century 11 = .ok (.iload_n 2, 1) := by decide +kernel
theorem dX6_century_12 : decode cX6_century 12 = .ok (.iconst 1, 1) := by decide +kernel
theorem dX6_century_13 : decode cX6_century 13 = .ok (.if_icmp .lt 18, 3) := by decide +kernel
theorem dX6_century_16 : decode cX6_century 16 = .ok (.iload_n 2, 1) := by decide +kernel
theorem dX6_century_17 : decode cX6_century 17 = .ok (.bipush 60, 2) := by decide +kernel
theorem dX6_century_19 : decode cX6_century 19 = .ok (.if_icmp .gt 12, 3) := by decide +kernel
theorem dX6_century_22 : decode cX6_century 22 = .ok (.iload_n 3, 1) := by decide +kernel
theorem dX6_century_23 : decode cX6_century 23 = .ok (.ifCond .lt 8, 3) := by decide +kernel
theorem dX6_century_26 : decode cX6_century 26 = .ok (.iload_n 3, 1) := by decide +kernel
theorem dX6_century_27 : decode cX6_century 27 = .ok (.iconst 2, 1) := by decide +kernel
theorem dX6_century_28 : decode cX6_century 28 = .ok (.if_icmp .le 5, 3) := by decide +kernel
theorem dX6_century_31 : decode cX6_century 31 = .ok (.iconst (-1), 1) := by decide +kernel
theorem dX6_century_32 : decode cX6_century 32 = .ok (.ireturn, 1) := by decide +kernel
theorem dX6_century_33 : decode cX6_century 33 = .ok (.aload_n 0, 1) := by decide +kernel
theorem dX6_century_34 : decode cX6_century 34 = .ok (.getfield 23, 3) := by decide +kernel
theorem dX6_century_37 : decode cX6_century 37 = .ok (.aload_n 0, 1) := by decide +kernel
theorem dX6_century_38 : decode cX6_century 38 = .ok (.getfield 19, 3) := by decide +kernel
theorem dX6_century_41 : decode cX6_century 41 = .ok (.invokevirtual 80, 3) := by decide +kernel
theorem dX6_century_44 : decode cX6_century 44 = .ok (.iconst 0, 1) := by decide +kernel
theorem dX6_century_45 : decode cX6_century 45 = .ok (.istore 4, 2) := by decide +kernel
theorem dX6_century_47 : decode cX6_century 47 = .ok (.iload 4, 2) := by decide +kernel
theorem dX6_century_49 : decode cX6_century 49 = .ok (.iload_n 2, 1) := by decide +kernel
theorem dX6_century_50 : decode cX6_century 50 = .ok (.if_icmp .ge 27, 3) := by decide +kernel
theorem dX6_century_53 : decode cX6_century 53 = .ok (.aload_n 0, 1) := by decide +kernel
theorem dX6_century_54 : decode cX6_century 54 = .ok (.iload_n 1, 1) := by decide +kernel
theorem dX6_century_55 : decode cX6_century 55 = .ok (.iload 4, 2) := by decide +kernel
theorem dX6_century_57 : decode cX6_century 57 = .ok (.invokestatic 262, 3) := by decide +kernel
theorem dX6_century_60 : decode cX6_century 60 = .ok (.invokevirtual 265, 3) := by decide +kernel
theorem dX6_century_63 : decode cX6_century 63 = .ok (.aload_n 0, 1) := by decide +kernel
theorem dX6_century_64 : decode cX6_century 64 = .ok (.getfield 23, 3) := by decide +kernel
theorem dX6_century_67 : decode cX6_century 67 = .ok (.iconst 1, 1) := by decide +kernel
theorem dX6_century_68 : decode cX6_century 68 = .ok (.invokevirtual 144, 3) := by decide +kernel
theorem dX6_century_71 : decode cX6_century 71 = .ok (.iinc 4 1, 3) := by decide +kernel
theorem dX6_century_74 : decode cX6_century 74 = .ok (.goto (-27), 3) := by decide +kernel
theorem dX6_century_77 : decode cX6_century 77 = .ok (.iload_n 3, 1) := by decide +kernel
theorem dX6_century_78 : decode cX6_century 78 = .ok (.lookupswitch 42 #[(0, 26), (1, 34)], 26) := by decide +kernel
theorem dX6_century_104 : decode cX6_century 104 = .ok (.aload_n 0, 1) := by decide +kernel
theorem dX6_century_105 : decode cX6_century 105 = .ok (.getfield 23, 3) := by decide +kernel
theorem dX6_century_108 : decode cX6_century 108 = .ok (.invokevirtual 186, 3) := by decide +kernel
theorem dX6_century_111 : decode cX6_century 111 = .ok (.ireturn, 1) := by decide +kernel
theorem dX6_century_112 : decode cX6_century 112 = .ok (.aload_n 0, 1) := by decide +kernel
theorem dX6_century_113 : decode cX6_century 113 = .ok (.getfield 23, 3) := by decide +kernel
theorem dX6_century_116 : decode cX6_century 116 = .ok (.invokevirtual 268, 3) := by decide +kernel
theorem dX6_century_119 : decode cX6_century 119 = .ok (.ireturn, 1) := by decide +kernel
theorem dX6_century_120 : decode cX6_century 120 = .ok (.aload_n 0, 1) := by decide +kernel
theorem dX6_century_121 : decode cX6_century 121 = .ok (.getfield 23, 3) := by decide +kernel
theorem dX6_century_124 : decode cX6_century 124 = .ok (.invokevirtual 91, 3) := by decide +kernel
theorem dX6_century_127 : decode cX6_century 127 = .ok (.invokevirtual 271, 3) := by decide +kernel
theorem dX6_century_130 : decode cX6_century 130 = .ok (.ireturn, 1) := by decide +kernel
theorem dX6_drawn_0 : decode cX6_drawn 0 = .ok (.ldc2_w 274, 3) := by decide +kernel
theorem dX6_drawn_3 : decode cX6_drawn 3 = .ok (.iload_n 0, 1) := by decide +kernel
theorem dX6_drawn_4 : decode cX6_drawn 4 = .ok (.i2l, 1) := by decide +kernel
theorem dX6_drawn_5 : decode cX6_drawn 5 = .ok (.lmul, 1) := by decide +kernel
theorem dX6_drawn_6 : decode cX6_drawn 6 = .ok (.ldc2_w 276, 3) := by decide +kernel
theorem dX6_drawn_9 : decode cX6_drawn 9 = .ok (.iload_n 1, 1) := by decide +kernel
theorem dX6_drawn_10 : decode cX6_drawn 10 = .ok (.i2l, 1) := by decide +kernel
theorem dX6_drawn_11 : decode cX6_drawn 11 = .ok (.lmul, 1) := by decide +kernel
theorem dX6_drawn_12 : decode cX6_drawn 12 = .ok (.ladd, 1) := by decide +kernel
theorem dX6_drawn_13 : decode cX6_drawn 13 = .ok (.lconst 1, 1) := by decide +kernel
theorem dX6_drawn_14 : decode cX6_drawn 14 = .ok (.ladd, 1) := by decide +kernel
theorem dX6_drawn_15 : decode cX6_drawn 15 = .ok (.lstore_n 2, 1) := by decide +kernel
theorem dX6_drawn_16 : decode cX6_drawn 16 = .ok (.lload_n 2, 1) := by decide +kernel
theorem dX6_drawn_17 : decode cX6_drawn 17 = .ok (.lload_n 2, 1) := by decide +kernel
theorem dX6_drawn_18 : decode cX6_drawn 18 = .ok (.lmul, 1) := by decide +kernel
theorem dX6_drawn_19 : decode cX6_drawn 19 = .ok (.ldc2_w 278, 3) := by decide +kernel
theorem dX6_drawn_22 : decode cX6_drawn 22 = .ok (.lrem, 1) := by decide +kernel
theorem dX6_drawn_23 : decode cX6_drawn 23 = .ok (.ldc2_w 280, 3) := by decide +kernel
theorem dX6_drawn_26 : decode cX6_drawn 26 = .ok (.ldiv, 1) := by decide +kernel
theorem dX6_drawn_27 : decode cX6_drawn 27 = .ok (.l2i, 1) := by decide +kernel
theorem dX6_drawn_28 : decode cX6_drawn 28 = .ok (.ireturn, 1) := by decide +kernel
theorem dX6_actByDraw_0 : decode cX6_actByDraw 0 = .ok (.aload_n 0, 1) := by decide +kernel
theorem dX6_actByDraw_1 : decode cX6_actByDraw 1 = .ok (.getfield 23, 3) := by decide +kernel
theorem dX6_actByDraw_4 : decode cX6_actByDraw 4 = .ok (.invokevirtual 74, 3) := by decide +kernel
theorem dX6_actByDraw_7 : decode cX6_actByDraw 7 = .ok (.istore_n 2, 1) := by decide +kernel
theorem dX6_actByDraw_8 : decode cX6_actByDraw 8 = .ok (.aload_n 0, 1) := by decide +kernel
theorem dX6_actByDraw_9 : decode cX6_actByDraw 9 = .ok (.getfield 23, 3) := by decide +kernel
theorem dX6_actByDraw_12 : decode cX6_actByDraw 12 = .ok (.invokevirtual 174, 3) := by decide +kernel
theorem dX6_actByDraw_15 : decode cX6_actByDraw 15 = .ok (.istore_n 3, 1) := by decide +kernel
theorem dX6_actByDraw_16 : decode cX6_actByDraw 16 = .ok (.iload_n 2, 1) := by decide +kernel
theorem dX6_actByDraw_17 : decode cX6_actByDraw 17 = .ok (.iconst 1, 1) := by decide +kernel
theorem dX6_actByDraw_18 : decode cX6_actByDraw 18 = .ok (.if_icmp .lt 8, 3) := by decide +kernel
theorem dX6_actByDraw_21 : decode cX6_actByDraw 21 = .ok (.iload_n 3, 1) := by decide +kernel
theorem dX6_actByDraw_22 : decode cX6_actByDraw 22 = .ok (.iconst 1, 1) := by decide +kernel
theorem dX6_actByDraw_23 : decode cX6_actByDraw 23 = .ok (.if_icmp .ge 4, 3) := by decide +kernel
theorem dX6_actByDraw_26 : decode cX6_actByDraw 26 = .ok (.return_, 1) := by decide +kernel
theorem dX6_actByDraw_27 : decode cX6_actByDraw 27 = .ok (.iload_n 1, 1) := by decide +kernel
theorem dX6_actByDraw_28 : decode cX6_actByDraw 28 = .ok (.iload_n 2, 1) := by decide +kernel
theorem dX6_actByDraw_29 : decode cX6_actByDraw 29 = .ok (.irem, 1) := by decide +kernel
theorem dX6_actByDraw_30 : decode cX6_actByDraw 30 = .ok (.istore 4, 2) := by decide +kernel
theorem dX6_actByDraw_32 : decode cX6_actByDraw 32 = .ok (.iload_n 1, 1) := by decide +kernel
theorem dX6_actByDraw_33 : decode cX6_actByDraw 33 = .ok (.bipush 8, 2) := by decide +kernel
theorem dX6_actByDraw_35 : decode cX6_actByDraw 35 = .ok (.idiv, 1) := by decide +kernel
theorem dX6_actByDraw_36 : decode cX6_actByDraw 36 = .ok (.iload_n 3, 1) := by decide +kernel
theorem dX6_actByDraw_37 : decode cX6_actByDraw 37 = .ok (.irem, 1) := by decide +kernel
theorem dX6_actByDraw_38 : decode cX6_actByDraw 38 = .ok (.istore 5, 2) := by decide +kernel
theorem dX6_actByDraw_40 : decode cX6_actByDraw 40 = .ok (.iload_n 1, 1) := by decide +kernel
theorem dX6_actByDraw_41 : decode cX6_actByDraw 41 = .ok (.bipush 64, 2) := by decide +kernel
theorem dX6_actByDraw_43 : decode cX6_actByDraw 43 = .ok (.idiv, 1) := by decide +kernel
theorem dX6_actByDraw_44 : decode cX6_actByDraw 44 = .ok (.bipush 6, 2) := by decide +kernel
theorem dX6_actByDraw_46 : decode cX6_actByDraw 46 = .ok (.irem, 1) := by decide +kernel
theorem dX6_actByDraw_47 : decode cX6_actByDraw 47 = .ok (.tableswitch 110 0 3 #[29, 54, 80, 91], 29) := by decide +kernel
theorem dX6_actByDraw_76 : decode cX6_actByDraw 76 = .ok (.aload_n 0, 1) := by decide +kernel
theorem dX6_actByDraw_77 : decode cX6_actByDraw 77 = .ok (.getfield 23, 3) := by decide +kernel
theorem dX6_actByDraw_80 : decode cX6_actByDraw 80 = .ok (.iload 4, 2) := by decide +kernel
theorem dX6_actByDraw_82 : decode cX6_actByDraw 82 = .ok (.invokevirtual 154, 3) := by decide +kernel
theorem dX6_actByDraw_85 : decode cX6_actByDraw 85 = .ok (.ifCond .ne 72, 3) := by decide +kernel
theorem dX6_actByDraw_88 : decode cX6_actByDraw 88 = .ok (.aload_n 0, 1) := by decide +kernel
theorem dX6_actByDraw_89 : decode cX6_actByDraw 89 = .ok (.getfield 23, 3) := by decide +kernel
theorem dX6_actByDraw_92 : decode cX6_actByDraw 92 = .ok (.iload 4, 2) := by decide +kernel
theorem dX6_actByDraw_94 : decode cX6_actByDraw 94 = .ok (.invokevirtual 157, 3) := by decide +kernel
theorem dX6_actByDraw_97 : decode cX6_actByDraw 97 = .ok (.pop, 1) := by decide +kernel
theorem dX6_actByDraw_98 : decode cX6_actByDraw 98 = .ok (.goto 59, 3) := by decide +kernel
theorem dX6_actByDraw_101 : decode cX6_actByDraw 101 = .ok (.aload_n 0, 1) := by decide +kernel
theorem dX6_actByDraw_102 : decode cX6_actByDraw 102 = .ok (.getfield 23, 3) := by decide +kernel
theorem dX6_actByDraw_105 : decode cX6_actByDraw 105 = .ok (.iload 4, 2) := by decide +kernel
theorem dX6_actByDraw_107 : decode cX6_actByDraw 107 = .ok (.invokevirtual 154, 3) := by decide +kernel
theorem dX6_actByDraw_110 : decode cX6_actByDraw 110 = .ok (.ifCond .ne 47, 3) := by decide +kernel
theorem dX6_actByDraw_113 : decode cX6_actByDraw 113 = .ok (.aload_n 0, 1) := by decide +kernel
theorem dX6_actByDraw_114 : decode cX6_actByDraw 114 = .ok (.getfield 23, 3) := by decide +kernel
theorem dX6_actByDraw_117 : decode cX6_actByDraw 117 = .ok (.iload 4, 2) := by decide +kernel
theorem dX6_actByDraw_119 : decode cX6_actByDraw 119 = .ok (.iload 5, 2) := by decide +kernel
theorem dX6_actByDraw_121 : decode cX6_actByDraw 121 = .ok (.invokevirtual 160, 3) := by decide +kernel
theorem dX6_actByDraw_124 : decode cX6_actByDraw 124 = .ok (.goto 33, 3) := by decide +kernel
theorem dX6_actByDraw_127 : decode cX6_actByDraw 127 = .ok (.aload_n 0, 1) := by decide +kernel
theorem dX6_actByDraw_128 : decode cX6_actByDraw 128 = .ok (.getfield 23, 3) := by decide +kernel
theorem dX6_actByDraw_131 : decode cX6_actByDraw 131 = .ok (.invokevirtual 147, 3) := by decide +kernel
theorem dX6_actByDraw_134 : decode cX6_actByDraw 134 = .ok (.pop, 1) := by decide +kernel
theorem dX6_actByDraw_135 : decode cX6_actByDraw 135 = .ok (.goto 22, 3) := by decide +kernel
theorem dX6_actByDraw_138 : decode cX6_actByDraw 138 = .ok (.aload_n 0, 1) := by decide +kernel
theorem dX6_actByDraw_139 : decode cX6_actByDraw 139 = .ok (.iload 5, 2) := by decide +kernel
theorem dX6_actByDraw_141 : decode cX6_actByDraw 141 = .ok (.iload_n 1, 1) := by decide +kernel
theorem dX6_actByDraw_142 : decode cX6_actByDraw 142 = .ok (.sipush 512, 3) := by decide +kernel
theorem dX6_actByDraw_145 : decode cX6_actByDraw 145 = .ok (.idiv, 1) := by decide +kernel
theorem dX6_actByDraw_146 : decode cX6_actByDraw 146 = .ok (.bipush 9, 2) := by decide +kernel
theorem dX6_actByDraw_148 : decode cX6_actByDraw 148 = .ok (.irem, 1) := by decide +kernel
theorem dX6_actByDraw_149 : decode cX6_actByDraw 149 = .ok (.iconst 1, 1) := by decide +kernel
theorem dX6_actByDraw_150 : decode cX6_actByDraw 150 = .ok (.iadd, 1) := by decide +kernel
theorem dX6_actByDraw_151 : decode cX6_actByDraw 151 = .ok (.invokevirtual 282, 3) := by decide +kernel
theorem dX6_actByDraw_154 : decode cX6_actByDraw 154 = .ok (.goto 3, 3) := by decide +kernel
theorem dX6_actByDraw_157 : decode cX6_actByDraw 157 = .ok (.return_, 1) := by decide +kernel
theorem dX6_layOrClose_0 : decode cX6_layOrClose 0 = .ok (.aload_n 0, 1) := by decide +kernel
theorem dX6_layOrClose_1 : decode cX6_layOrClose 1 = .ok (.getfield 23, 3) := by decide +kernel
theorem dX6_layOrClose_4 : decode cX6_layOrClose 4 = .ok (.invokevirtual 91, 3) := by decide +kernel
theorem dX6_layOrClose_7 : decode cX6_layOrClose 7 = .ok (.astore_n 3, 1) := by decide +kernel
theorem dX6_layOrClose_8 : decode cX6_layOrClose 8 = .ok (.aload_n 3, 1) := by decide +kernel
theorem dX6_layOrClose_9 : decode cX6_layOrClose 9 = .ok (.iload_n 1, 1) := by decide +kernel
theorem dX6_layOrClose_10 : decode cX6_layOrClose 10 = .ok (.invokevirtual 285, 3) := by decide +kernel
theorem dX6_layOrClose_13 : decode cX6_layOrClose 13 = .ok (.istore 4, 2) := by decide +kernel
theorem dX6_layOrClose_15 : decode cX6_layOrClose 15 = .ok (.aload_n 3, 1) := by decide +kernel
theorem dX6_layOrClose_16 : decode cX6_layOrClose 16 = .ok (.iload_n 1, 1) := by decide +kernel
theorem dX6_layOrClose_17 : decode cX6_layOrClose 17 = .ok (.iload 4, 2) := by decide +kernel
theorem dX6_layOrClose_19 : decode cX6_layOrClose 19 = .ok (.aload_n 3, 1) := by decide +kernel
theorem dX6_layOrClose_20 : decode cX6_layOrClose 20 = .ok (.iload_n 1, 1) := by decide +kernel
theorem dX6_layOrClose_21 : decode cX6_layOrClose 21 = .ok (.iload 4, 2) := by decide +kernel
theorem dX6_layOrClose_23 : decode cX6_layOrClose 23 = .ok (.invokevirtual 95, 3) := by decide +kernel
theorem dX6_layOrClose_26 : decode cX6_layOrClose 26 = .ok (.ifCond .le 7, 3) := by decide +kernel
theorem dX6_layOrClose_29 : decode cX6_layOrClose 29 = .ok (.iconst 0, 1) := by decide +kernel
theorem dX6_layOrClose_30 : decode cX6_layOrClose 30 = .ok (.goto 4, 3) := by decide +kernel
theorem dX6_layOrClose_33 : decode cX6_layOrClose 33 = .ok (.iload_n 2, 1) := by decide +kernel
theorem dX6_layOrClose_34 : decode cX6_layOrClose 34 = .ok (.invokevirtual 150, 3) := by decide +kernel
theorem dX6_layOrClose_37 : decode cX6_layOrClose 37 = .ok (.return_, 1) := by decide +kernel
theorem dX6_keep_0 : decode cX6_keep 0 = .ok (.aload_n 0, 1) := by decide +kernel
theorem dX6_keep_1 : decode cX6_keep 1 = .ok (.getfield 35, 3) := by decide +kernel
theorem dX6_keep_4 : decode cX6_keep 4 = .ok (.invokevirtual 171, 3) := by decide +kernel
theorem dX6_keep_7 : decode cX6_keep 7 = .ok (.iconst 2, 1) := by decide +kernel
theorem dX6_keep_8 : decode cX6_keep 8 = .ok (.if_icmp .lt 6, 3) := by decide +kernel
theorem dX6_keep_11 : decode cX6_keep 11 = .ok (.bipush (-3), 2) := by decide +kernel
theorem dX6_keep_13 : decode cX6_keep 13 = .ok (.ireturn, 1) := by decide +kernel
theorem dX6_keep_14 : decode cX6_keep 14 = .ok (.aload_n 0, 1) := by decide +kernel
theorem dX6_keep_15 : decode cX6_keep 15 = .ok (.getfield 35, 3) := by decide +kernel
theorem dX6_keep_18 : decode cX6_keep 18 = .ok (.aload_n 0, 1) := by decide +kernel
theorem dX6_keep_19 : decode cX6_keep 19 = .ok (.getfield 19, 3) := by decide +kernel
theorem dX6_keep_22 : decode cX6_keep 22 = .ok (.invokevirtual 141, 3) := by decide +kernel
theorem dX6_keep_25 : decode cX6_keep 25 = .ok (.aload_n 0, 1) := by decide +kernel
theorem dX6_keep_26 : decode cX6_keep 26 = .ok (.getfield 35, 3) := by decide +kernel
theorem dX6_keep_29 : decode cX6_keep 29 = .ok (.invokevirtual 171, 3) := by decide +kernel
theorem dX6_keep_32 : decode cX6_keep 32 = .ok (.ireturn, 1) := by decide +kernel
theorem dX6_back_0 : decode cX6_back 0 = .ok (.aload_n 0, 1) := by decide +kernel
theorem dX6_back_1 : decode cX6_back 1 = .ok (.getfield 35, 3) := by decide +kernel
theorem dX6_back_4 : decode cX6_back 4 = .ok (.aload_n 0, 1) := by decide +kernel
theorem dX6_back_5 : decode cX6_back 5 = .ok (.getfield 19, 3) := by decide +kernel
theorem dX6_back_8 : decode cX6_back 8 = .ok (.invokevirtual 167, 3) := by decide +kernel
theorem dX6_back_11 : decode cX6_back 11 = .ok (.ifCond .ne 6, 3) := by decide +kernel
theorem dX6_back_14 : decode cX6_back 14 = .ok (.bipush (-2), 2) := by decide +kernel
theorem dX6_back_16 : decode cX6_back 16 = .ok (.ireturn, 1) := by decide +kernel
theorem dX6_back_17 : decode cX6_back 17 = .ok (.aload_n 0, 1) := by decide +kernel
theorem dX6_back_18 : decode cX6_back 18 = .ok (.getfield 31, 3) := by decide +kernel
theorem dX6_back_21 : decode cX6_back 21 = .ok (.invokevirtual 84, 3) := by decide +kernel
theorem dX6_back_24 : decode cX6_back 24 = .ok (.aload_n 0, 1) := by decide +kernel
theorem dX6_back_25 : decode cX6_back 25 = .ok (.getfield 35, 3) := by decide +kernel
theorem dX6_back_28 : decode cX6_back 28 = .ok (.invokevirtual 171, 3) := by decide +kernel
theorem dX6_back_31 : decode cX6_back 31 = .ok (.ireturn, 1) := by decide +kernel
theorem dX6_count_0 : decode cX6_count 0 = .ok (.iload_n 1, 1) := by decide +kernel
theorem dX6_count_1 : decode cX6_count 1 = .ok (.tableswitch 174 0 12 #[67, 75, 83, 91, 99, 107, 118, 126, 134, 142, 150, 158, 166], 67) := by decide +kernel
theorem dX6_count_68 : decode cX6_count 68 = .ok (.aload_n 0, 1) := by decide +kernel
theorem dX6_count_69 : decode cX6_count 69 = .ok (.getfield 19, 3) := by decide +kernel
theorem dX6_count_72 : decode cX6_count 72 = .ok (.invokevirtual 174, 3) := by decide +kernel
theorem dX6_count_75 : decode cX6_count 75 = .ok (.ireturn, 1) := by decide +kernel
theorem dX6_count_76 : decode cX6_count 76 = .ok (.aload_n 0, 1) := by decide +kernel
theorem dX6_count_77 : decode cX6_count 77 = .ok (.getfield 19, 3) := by decide +kernel
theorem dX6_count_80 : decode cX6_count 80 = .ok (.invokevirtual 74, 3) := by decide +kernel
theorem dX6_count_83 : decode cX6_count 83 = .ok (.ireturn, 1) := by decide +kernel
theorem dX6_count_84 : decode cX6_count 84 = .ok (.aload_n 0, 1) := by decide +kernel
theorem dX6_count_85 : decode cX6_count 85 = .ok (.getfield 19, 3) := by decide +kernel
theorem dX6_count_88 : decode cX6_count 88 = .ok (.invokevirtual 77, 3) := by decide +kernel
theorem dX6_count_91 : decode cX6_count 91 = .ok (.ireturn, 1) := by decide +kernel
theorem dX6_count_92 : decode cX6_count 92 = .ok (.aload_n 0, 1) := by decide +kernel
theorem dX6_count_93 : decode cX6_count 93 = .ok (.getfield 19, 3) := by decide +kernel
theorem dX6_count_96 : decode cX6_count 96 = .ok (.invokevirtual 138, 3) := by decide +kernel
theorem dX6_count_99 : decode cX6_count 99 = .ok (.ireturn, 1) := by decide +kernel
theorem dX6_count_100 : decode cX6_count 100 = .ok (.aload_n 0, 1) := by decide +kernel
theorem dX6_count_101 : decode cX6_count 101 = .ok (.getfield 19, 3) := by decide +kernel
theorem dX6_count_104 : decode cX6_count 104 = .ok (.invokevirtual 288, 3) := by decide +kernel
theorem dX6_count_107 : decode cX6_count 107 = .ok (.ireturn, 1) := by decide +kernel
theorem dX6_count_108 : decode cX6_count 108 = .ok (.aload_n 0, 1) := by decide +kernel
theorem dX6_count_109 : decode cX6_count 109 = .ok (.getfield 19, 3) := by decide +kernel
theorem dX6_count_112 : decode cX6_count 112 = .ok (.invokevirtual 91, 3) := by decide +kernel
theorem dX6_count_115 : decode cX6_count 115 = .ok (.invokevirtual 291, 3) := by decide +kernel
theorem dX6_count_118 : decode cX6_count 118 = .ok (.ireturn, 1) := by decide +kernel
theorem dX6_count_119 : decode cX6_count 119 = .ok (.aload_n 0, 1) := by decide +kernel
theorem dX6_count_120 : decode cX6_count 120 = .ok (.getfield 19, 3) := by decide +kernel
theorem dX6_count_123 : decode cX6_count 123 = .ok (.invokevirtual 268, 3) := by decide +kernel
theorem dX6_count_126 : decode cX6_count 126 = .ok (.ireturn, 1) := by decide +kernel
theorem dX6_count_127 : decode cX6_count 127 = .ok (.aload_n 0, 1) := by decide +kernel
theorem dX6_count_128 : decode cX6_count 128 = .ok (.getfield 19, 3) := by decide +kernel
theorem dX6_count_131 : decode cX6_count 131 = .ok (.invokevirtual 186, 3) := by decide +kernel
theorem dX6_count_134 : decode cX6_count 134 = .ok (.ireturn, 1) := by decide +kernel
theorem dX6_count_135 : decode cX6_count 135 = .ok (.aload_n 0, 1) := by decide +kernel
theorem dX6_count_136 : decode cX6_count 136 = .ok (.getfield 41, 3) := by decide +kernel
theorem dX6_count_139 : decode cX6_count 139 = .ok (.invokevirtual 219, 3) := by decide +kernel
theorem dX6_count_142 : decode cX6_count 142 = .ok (.ireturn, 1) := by decide +kernel
theorem dX6_count_143 : decode cX6_count 143 = .ok (.aload_n 0, 1) := by decide +kernel
theorem dX6_count_144 : decode cX6_count 144 = .ok (.getfield 45, 3) := by decide +kernel
theorem dX6_count_147 : decode cX6_count 147 = .ok (.invokevirtual 219, 3) := by decide +kernel
theorem dX6_count_150 : decode cX6_count 150 = .ok (.ireturn, 1) := by decide +kernel
theorem dX6_count_151 : decode cX6_count 151 = .ok (.aload_n 0, 1) := by decide +kernel
theorem dX6_count_152 : decode cX6_count 152 = .ok (.getfield 31, 3) := by decide +kernel
theorem dX6_count_155 : decode cX6_count 155 = .ok (.invokevirtual 171, 3) := by decide +kernel
theorem dX6_count_158 : decode cX6_count 158 = .ok (.ireturn, 1) := by decide +kernel
theorem dX6_count_159 : decode cX6_count 159 = .ok (.aload_n 0, 1) := by decide +kernel
theorem dX6_count_160 : decode cX6_count 160 = .ok (.getfield 35, 3) := by decide +kernel
theorem dX6_count_163 : decode cX6_count 163 = .ok (.invokevirtual 171, 3) := by decide +kernel
theorem dX6_count_166 : decode cX6_count 166 = .ok (.ireturn, 1) := by decide +kernel
theorem dX6_count_167 : decode cX6_count 167 = .ok (.aload_n 0, 1) := by decide +kernel
theorem dX6_count_168 : decode cX6_count 168 = .ok (.getfield 10, 3) := by decide +kernel
theorem dX6_count_171 : decode cX6_count 171 = .ok (.invokevirtual 294, 3) := by decide +kernel
theorem dX6_count_174 : decode cX6_count 174 = .ok (.ireturn, 1) := by decide +kernel
theorem dX6_count_175 : decode cX6_count 175 = .ok (.iconst (-1), 1) := by decide +kernel
theorem dX6_count_176 : decode cX6_count 176 = .ok (.ireturn, 1) := by decide +kernel
theorem dX6_hasBit_0 : decode cX6_hasBit 0 = .ok (.iload_n 0, 1) := by decide +kernel
theorem dX6_hasBit_1 : decode cX6_hasBit 1 = .ok (.iload_n 1, 1) := by decide +kernel
theorem dX6_hasBit_2 : decode cX6_hasBit 2 = .ok (.ishr, 1) := by decide +kernel
theorem dX6_hasBit_3 : decode cX6_hasBit 3 = .ok (.iconst 1, 1) := by decide +kernel
theorem dX6_hasBit_4 : decode cX6_hasBit 4 = .ok (.iand, 1) := by decide +kernel
theorem dX6_hasBit_5 : decode cX6_hasBit 5 = .ok (.iconst 1, 1) := by decide +kernel
theorem dX6_hasBit_6 : decode cX6_hasBit 6 = .ok (.if_icmp .ne 7, 3) := by decide +kernel
theorem dX6_hasBit_9 : decode cX6_hasBit 9 = .ok (.iconst 1, 1) := by decide +kernel
theorem dX6_hasBit_10 : decode cX6_hasBit 10 = .ok (.goto 4, 3) := by decide +kernel
theorem dX6_hasBit_13 : decode cX6_hasBit 13 = .ok (.iconst 0, 1) := by decide +kernel
theorem dX6_hasBit_14 : decode cX6_hasBit 14 = .ok (.ireturn, 1) := by decide +kernel
theorem dJ6_bitCount_0f7a4_0 : decode cJ6_bitCount_0f7a4 0 = .ok (.iload_n 0, 1) := by decide +kernel
theorem dJ6_bitCount_0f7a4_1 : decode cJ6_bitCount_0f7a4 1 = .ok (.iload_n 0, 1) := by decide +kernel
theorem dJ6_bitCount_0f7a4_2 : decode cJ6_bitCount_0f7a4 2 = .ok (.iconst 1, 1) := by decide +kernel
theorem dJ6_bitCount_0f7a4_3 : decode cJ6_bitCount_0f7a4 3 = .ok (.iushr, 1) := by decide +kernel
theorem dJ6_bitCount_0f7a4_4 : decode cJ6_bitCount_0f7a4 4 = .ok (.ldc_w 265, 3) := by decide +kernel
theorem dJ6_bitCount_0f7a4_7 : decode cJ6_bitCount_0f7a4 7 = .ok (.iand, 1) := by decide +kernel
theorem dJ6_bitCount_0f7a4_8 : decode cJ6_bitCount_0f7a4 8 = .ok (.isub, 1) := by decide +kernel
theorem dJ6_bitCount_0f7a4_9 : decode cJ6_bitCount_0f7a4 9 = .ok (.istore_n 0, 1) := by decide +kernel
theorem dJ6_bitCount_0f7a4_10 : decode cJ6_bitCount_0f7a4 10 = .ok (.iload_n 0, 1) := by decide +kernel
theorem dJ6_bitCount_0f7a4_11 : decode cJ6_bitCount_0f7a4 11 = .ok (.ldc_w 266, 3) := by decide +kernel
theorem dJ6_bitCount_0f7a4_14 : decode cJ6_bitCount_0f7a4 14 = .ok (.iand, 1) := by decide +kernel
theorem dJ6_bitCount_0f7a4_15 : decode cJ6_bitCount_0f7a4 15 = .ok (.iload_n 0, 1) := by decide +kernel
theorem dJ6_bitCount_0f7a4_16 : decode cJ6_bitCount_0f7a4 16 = .ok (.iconst 2, 1) := by decide +kernel
theorem dJ6_bitCount_0f7a4_17 : decode cJ6_bitCount_0f7a4 17 = .ok (.iushr, 1) := by decide +kernel
theorem dJ6_bitCount_0f7a4_18 : decode cJ6_bitCount_0f7a4 18 = .ok (.ldc_w 266, 3) := by decide +kernel
theorem dJ6_bitCount_0f7a4_21 : decode cJ6_bitCount_0f7a4 21 = .ok (.iand, 1) := by decide +kernel
theorem dJ6_bitCount_0f7a4_22 : decode cJ6_bitCount_0f7a4 22 = .ok (.iadd, 1) := by decide +kernel
theorem dJ6_bitCount_0f7a4_23 : decode cJ6_bitCount_0f7a4 23 = .ok (.istore_n 0, 1) := by decide +kernel
theorem dJ6_bitCount_0f7a4_24 : decode cJ6_bitCount_0f7a4 24 = .ok (.iload_n 0, 1) := by decide +kernel
theorem dJ6_bitCount_0f7a4_25 : decode cJ6_bitCount_0f7a4 25 = .ok (.iload_n 0, 1) := by decide +kernel
theorem dJ6_bitCount_0f7a4_26 : decode cJ6_bitCount_0f7a4 26 = .ok (.iconst 4, 1) := by decide +kernel
theorem dJ6_bitCount_0f7a4_27 : decode cJ6_bitCount_0f7a4 27 = .ok (.iushr, 1) := by decide +kernel
theorem dJ6_bitCount_0f7a4_28 : decode cJ6_bitCount_0f7a4 28 = .ok (.iadd, 1) := by decide +kernel
theorem dJ6_bitCount_0f7a4_29 : decode cJ6_bitCount_0f7a4 29 = .ok (.ldc_w 267, 3) := by decide +kernel
theorem dJ6_bitCount_0f7a4_32 : decode cJ6_bitCount_0f7a4 32 = .ok (.iand, 1) := by decide +kernel
theorem dJ6_bitCount_0f7a4_33 : decode cJ6_bitCount_0f7a4 33 = .ok (.istore_n 0, 1) := by decide +kernel
theorem dJ6_bitCount_0f7a4_34 : decode cJ6_bitCount_0f7a4 34 = .ok (.iload_n 0, 1) := by decide +kernel
theorem dJ6_bitCount_0f7a4_35 : decode cJ6_bitCount_0f7a4 35 = .ok (.iload_n 0, 1) := by decide +kernel
theorem dJ6_bitCount_0f7a4_36 : decode cJ6_bitCount_0f7a4 36 = .ok (.bipush 8, 2) := by decide +kernel
theorem dJ6_bitCount_0f7a4_38 : decode cJ6_bitCount_0f7a4 38 = .ok (.iushr, 1) := by decide +kernel
theorem dJ6_bitCount_0f7a4_39 : decode cJ6_bitCount_0f7a4 39 = .ok (.iadd, 1) := by decide +kernel
theorem dJ6_bitCount_0f7a4_40 : decode cJ6_bitCount_0f7a4 40 = .ok (.istore_n 0, 1) := by decide +kernel
theorem dJ6_bitCount_0f7a4_41 : decode cJ6_bitCount_0f7a4 41 = .ok (.iload_n 0, 1) := by decide +kernel
theorem dJ6_bitCount_0f7a4_42 : decode cJ6_bitCount_0f7a4 42 = .ok (.iload_n 0, 1) := by decide +kernel
theorem dJ6_bitCount_0f7a4_43 : decode cJ6_bitCount_0f7a4 43 = .ok (.bipush 16, 2) := by decide +kernel
theorem dJ6_bitCount_0f7a4_45 : decode cJ6_bitCount_0f7a4 45 = .ok (.iushr, 1) := by decide +kernel
theorem dJ6_bitCount_0f7a4_46 : decode cJ6_bitCount_0f7a4 46 = .ok (.iadd, 1) := by decide +kernel
theorem dJ6_bitCount_0f7a4_47 : decode cJ6_bitCount_0f7a4 47 = .ok (.istore_n 0, 1) := by decide +kernel
theorem dJ6_bitCount_0f7a4_48 : decode cJ6_bitCount_0f7a4 48 = .ok (.iload_n 0, 1) := by decide +kernel
theorem dJ6_bitCount_0f7a4_49 : decode cJ6_bitCount_0f7a4 49 = .ok (.bipush 63, 2) := by decide +kernel
theorem dJ6_bitCount_0f7a4_51 : decode cJ6_bitCount_0f7a4 51 = .ok (.iand, 1) := by decide +kernel
theorem dJ6_bitCount_0f7a4_52 : decode cJ6_bitCount_0f7a4 52 = .ok (.ireturn, 1) := by decide +kernel
theorem dJ9_max_7cf53_0 : decode cJ9_max_7cf53 0 = .ok (.iload_n 0, 1) := by decide +kernel
theorem dJ9_max_7cf53_1 : decode cJ9_max_7cf53 1 = .ok (.iload_n 1, 1) := by decide +kernel
theorem dJ9_max_7cf53_2 : decode cJ9_max_7cf53 2 = .ok (.if_icmp .lt 7, 3) := by decide +kernel
theorem dJ9_max_7cf53_5 : decode cJ9_max_7cf53 5 = .ok (.iload_n 0, 1) := by decide +kernel
theorem dJ9_max_7cf53_6 : decode cJ9_max_7cf53 6 = .ok (.goto 4, 3) := by decide +kernel
theorem dJ9_max_7cf53_9 : decode cJ9_max_7cf53 9 = .ok (.iload_n 1, 1) := by decide +kernel
theorem dJ9_max_7cf53_10 : decode cJ9_max_7cf53 10 = .ok (.ireturn, 1) := by decide +kernel
theorem dJ9_min_7cf53_0 : decode cJ9_min_7cf53 0 = .ok (.iload_n 0, 1) := by decide +kernel
theorem dJ9_min_7cf53_1 : decode cJ9_min_7cf53 1 = .ok (.iload_n 1, 1) := by decide +kernel
theorem dJ9_min_7cf53_2 : decode cJ9_min_7cf53 2 = .ok (.if_icmp .gt 7, 3) := by decide +kernel
theorem dJ9_min_7cf53_5 : decode cJ9_min_7cf53 5 = .ok (.iload_n 0, 1) := by decide +kernel
theorem dJ9_min_7cf53_6 : decode cJ9_min_7cf53 6 = .ok (.goto 4, 3) := by decide +kernel
theorem dJ9_min_7cf53_9 : decode cJ9_min_7cf53 9 = .ok (.iload_n 1, 1) := by decide +kernel
theorem dJ9_min_7cf53_10 : decode cJ9_min_7cf53 10 = .ok (.ireturn, 1) := by decide +kernel
theorem dJ0_length_8abf5_0 : decode cJ0_length_8abf5 0 = .ok (.aload_n 0, 1) := by decide +kernel
theorem dJ0_length_8abf5_1 : decode cJ0_length_8abf5 1 = .ok (.getfield 9, 3) := by decide +kernel
theorem dJ0_length_8abf5_4 : decode cJ0_length_8abf5 4 = .ok (.arraylength, 1) := by decide +kernel
theorem dJ0_length_8abf5_5 : decode cJ0_length_8abf5 5 = .ok (.aload_n 0, 1) := by decide +kernel
theorem dJ0_length_8abf5_6 : decode cJ0_length_8abf5 6 = .ok (.invokevirtual 335, 3) := by decide +kernel
theorem dJ0_length_8abf5_9 : decode cJ0_length_8abf5 9 = .ok (.ishr, 1) := by decide +kernel
theorem dJ0_length_8abf5_10 : decode cJ0_length_8abf5 10 = .ok (.ireturn, 1) := by decide +kernel
theorem dJ0_charAt_5068e_0 : decode cJ0_charAt_5068e 0 = .ok (.aload_n 0, 1) := by decide +kernel
theorem dJ0_charAt_5068e_1 : decode cJ0_charAt_5068e 1 = .ok (.invokevirtual 492, 3) := by decide +kernel
theorem dJ0_charAt_5068e_4 : decode cJ0_charAt_5068e 4 = .ok (.ifCond .eq 12, 3) := by decide +kernel
theorem dJ0_charAt_5068e_7 : decode cJ0_charAt_5068e 7 = .ok (.aload_n 0, 1) := by decide +kernel
theorem dJ0_charAt_5068e_8 : decode cJ0_charAt_5068e 8 = .ok (.getfield 9, 3) := by decide +kernel
theorem dJ0_charAt_5068e_11 : decode cJ0_charAt_5068e 11 = .ok (.iload_n 1, 1) := by decide +kernel
theorem dJ0_charAt_5068e_12 : decode cJ0_charAt_5068e 12 = .ok (.invokestatic 495, 3) := by decide +kernel
theorem dJ0_charAt_5068e_15 : decode cJ0_charAt_5068e 15 = .ok (.ireturn, 1) := by decide +kernel
theorem dJ0_charAt_5068e_16 : decode cJ0_charAt_5068e 16 = .ok (.aload_n 0, 1) := by decide +kernel
theorem dJ0_charAt_5068e_17 : decode cJ0_charAt_5068e 17 = .ok (.getfield 9, 3) := by decide +kernel
theorem dJ0_charAt_5068e_20 : decode cJ0_charAt_5068e 20 = .ok (.iload_n 1, 1) := by decide +kernel
theorem dJ0_charAt_5068e_21 : decode cJ0_charAt_5068e 21 = .ok (.invokestatic 498, 3) := by decide +kernel
theorem dJ0_charAt_5068e_24 : decode cJ0_charAt_5068e 24 = .ok (.ireturn, 1) := by decide +kernel
theorem dJ0_coder_7d493_0 : decode cJ0_coder_7d493 0 = .ok (.getstatic 38, 3) := by decide +kernel
theorem dJ0_coder_7d493_3 : decode cJ0_coder_7d493 3 = .ok (.ifCond .eq 10, 3) := by decide +kernel
theorem dJ0_coder_7d493_6 : decode cJ0_coder_7d493 6 = .ok (.aload_n 0, 1) := by decide +kernel
theorem dJ0_coder_7d493_7 : decode cJ0_coder_7d493 7 = .ok (.getfield 15, 3) := by decide +kernel
theorem dJ0_coder_7d493_10 : decode cJ0_coder_7d493 10 = .ok (.goto 4, 3) := by decide +kernel
theorem dJ0_coder_7d493_13 : decode cJ0_coder_7d493 13 = .ok (.iconst 1, 1) := by decide +kernel
theorem dJ0_coder_7d493_14 : decode cJ0_coder_7d493 14 = .ok (.ireturn, 1) := by decide +kernel
theorem dJ0_isLatin1_aae02_0 : decode cJ0_isLatin1_aae02 0 = .ok (.getstatic 38, 3) := by decide +kernel
theorem dJ0_isLatin1_aae02_3 : decode cJ0_isLatin1_aae02 3 = .ok (.ifCond .eq 14, 3) := by decide +kernel
theorem dJ0_isLatin1_aae02_6 : decode cJ0_isLatin1_aae02 6 = .ok (.aload_n 0, 1) := by decide +kernel
theorem dJ0_isLatin1_aae02_7 : decode cJ0_isLatin1_aae02 7 = .ok (.getfield 15, 3) := by decide +kernel
theorem dJ0_isLatin1_aae02_10 : decode cJ0_isLatin1_aae02 10 = .ok (.ifCond .ne 7, 3) := by decide +kernel
theorem dJ0_isLatin1_aae02_13 : decode cJ0_isLatin1_aae02 13 = .ok (.iconst 1, 1) := by decide +kernel
theorem dJ0_isLatin1_aae02_14 : decode cJ0_isLatin1_aae02 14 = .ok (.goto 4, 3) := by decide +kernel
theorem dJ0_isLatin1_aae02_17 : decode cJ0_isLatin1_aae02 17 = .ok (.iconst 0, 1) := by decide +kernel
theorem dJ0_isLatin1_aae02_18 : decode cJ0_isLatin1_aae02 18 = .ok (.ireturn, 1) := by decide +kernel
theorem dJ0_checkIndex_df160_0 : decode cJ0_checkIndex_df160 0 = .ok (.iload_n 0, 1) := by decide +kernel
theorem dJ0_checkIndex_df160_1 : decode cJ0_checkIndex_df160 1 = .ok (.iload_n 1, 1) := by decide +kernel
theorem dJ0_checkIndex_df160_2 : decode cJ0_checkIndex_df160 2 = .ok (.getstatic 1053, 3) := by decide +kernel
theorem dJ0_checkIndex_df160_5 : decode cJ0_checkIndex_df160 5 = .ok (.invokestatic 1059, 3) := by decide +kernel
theorem dJ0_checkIndex_df160_8 : decode cJ0_checkIndex_df160 8 = .ok (.pop, 1) := by decide +kernel
theorem dJ0_checkIndex_df160_9 : decode cJ0_checkIndex_df160 9 = .ok (.return_, 1) := by decide +kernel
theorem dJ1_charAt_3b067_0 : decode cJ1_charAt_3b067 0 = .ok (.iload_n 1, 1) := by decide +kernel
theorem dJ1_charAt_3b067_1 : decode cJ1_charAt_3b067 1 = .ok (.aload_n 0, 1) := by decide +kernel
theorem dJ1_charAt_3b067_2 : decode cJ1_charAt_3b067 2 = .ok (.arraylength, 1) := by decide +kernel
theorem dJ1_charAt_3b067_3 : decode cJ1_charAt_3b067 3 = .ok (.invokestatic 9, 3) := by decide +kernel
theorem dJ1_charAt_3b067_6 : decode cJ1_charAt_3b067 6 = .ok (.aload_n 0, 1) := by decide +kernel
theorem dJ1_charAt_3b067_7 : decode cJ1_charAt_3b067 7 = .ok (.iload_n 1, 1) := by decide +kernel
theorem dJ1_charAt_3b067_8 : decode cJ1_charAt_3b067 8 = .ok (.baload, 1) := by decide +kernel
theorem dJ1_charAt_3b067_9 : decode cJ1_charAt_3b067 9 = .ok (.sipush 255, 3) := by decide +kernel
theorem dJ1_charAt_3b067_12 : decode cJ1_charAt_3b067 12 = .ok (.iand, 1) := by decide +kernel
theorem dJ1_charAt_3b067_13 : decode cJ1_charAt_3b067 13 = .ok (.i2c, 1) := by decide +kernel
theorem dJ1_charAt_3b067_14 : decode cJ1_charAt_3b067 14 = .ok (.ireturn, 1) := by decide +kernel
theorem dJ2_getChar_3b067_0 : decode cJ2_getChar_3b067 0 = .ok (.getstatic 44, 3) := by decide +kernel
theorem dJ2_getChar_3b067_3 : decode cJ2_getChar_3b067 3 = .ok (.ifCond .ne 25, 3) := by decide +kernel
theorem dJ2_getChar_3b067_6 : decode cJ2_getChar_3b067 6 = .ok (.iload_n 1, 1) := by decide +kernel
theorem dJ2_getChar_3b067_7 : decode cJ2_getChar_3b067 7 = .ok (.ifCond .lt 11, 3) := by decide +kernel
theorem dJ2_getChar_3b067_10 : decode cJ2_getChar_3b067 10 = .ok (.iload_n 1, 1) := by decide +kernel
theorem dJ2_getChar_3b067_11 : decode cJ2_getChar_3b067 11 = .ok (.aload_n 0, 1) := by decide +kernel
theorem dJ2_getChar_3b067_12 : decode cJ2_getChar_3b067 12 = .ok (.invokestatic 48, 3) := by decide +kernel
theorem dJ2_getChar_3b067_15 : decode cJ2_getChar_3b067 15 = .ok (.if_icmp .lt 13, 3) := by decide +kernel
theorem dJ2_getChar_3b067_18 : decode cJ2_getChar_3b067 18 = .ok (.new 52, 3) := by decide +kernel
theorem dJ2_getChar_3b067_21 : decode cJ2_getChar_3b067 21 = .ok (.dup, 1) := by decide +kernel
theorem dJ2_getChar_3b067_22 : decode cJ2_getChar_3b067 22 = .ok (.ldc 54, 2) := by decide +kernel
theorem dJ2_getChar_3b067_24 : decode cJ2_getChar_3b067 24 = .ok (.invokespecial 56, 3) := by decide +kernel
theorem dJ2_getChar_3b067_27 : decode cJ2_getChar_3b067 27 = .ok (.athrow, 1) := by decide +kernel
theorem dJ2_getChar_3b067_28 : decode cJ2_getChar_3b067 28 = .ok (.iload_n 1, 1) := by decide +kernel
theorem dJ2_getChar_3b067_29 : decode cJ2_getChar_3b067 29 = .ok (.iconst 1, 1) := by decide +kernel
theorem dJ2_getChar_3b067_30 : decode cJ2_getChar_3b067 30 = .ok (.ishl, 1) := by decide +kernel
theorem dJ2_getChar_3b067_31 : decode cJ2_getChar_3b067 31 = .ok (.istore_n 1, 1) := by decide +kernel
theorem dJ2_getChar_3b067_32 : decode cJ2_getChar_3b067 32 = .ok (.aload_n 0, 1) := by decide +kernel
theorem dJ2_getChar_3b067_33 : decode cJ2_getChar_3b067 33 = .ok (.iload_n 1, 1) := by decide +kernel
theorem dJ2_getChar_3b067_34 : decode cJ2_getChar_3b067 34 = .ok (.iinc 1 1, 3) := by decide +kernel
theorem dJ2_getChar_3b067_37 : decode cJ2_getChar_3b067 37 = .ok (.baload, 1) := by decide +kernel
theorem dJ2_getChar_3b067_38 : decode cJ2_getChar_3b067 38 = .ok (.sipush 255, 3) := by decide +kernel
theorem dJ2_getChar_3b067_41 : decode cJ2_getChar_3b067 41 = .ok (.iand, 1) := by decide +kernel
theorem dJ2_getChar_3b067_42 : decode cJ2_getChar_3b067 42 = .ok (.getstatic 59, 3) := by decide +kernel
theorem dJ2_getChar_3b067_45 : decode cJ2_getChar_3b067 45 = .ok (.ishl, 1) := by decide +kernel
theorem dJ2_getChar_3b067_46 : decode cJ2_getChar_3b067 46 = .ok (.aload_n 0, 1) := by decide +kernel
theorem dJ2_getChar_3b067_47 : decode cJ2_getChar_3b067 47 = .ok (.iload_n 1, 1) := by decide +kernel
theorem dJ2_getChar_3b067_48 : decode cJ2_getChar_3b067 48 = .ok (.baload, 1) := by decide +kernel
theorem dJ2_getChar_3b067_49 : decode cJ2_getChar_3b067 49 = .ok (.sipush 255, 3) := by decide +kernel
theorem dJ2_getChar_3b067_52 : decode cJ2_getChar_3b067 52 = .ok (.iand, 1) := by decide +kernel
theorem dJ2_getChar_3b067_53 : decode cJ2_getChar_3b067 53 = .ok (.getstatic 63, 3) := by decide +kernel
theorem dJ2_getChar_3b067_56 : decode cJ2_getChar_3b067 56 = .ok (.ishl, 1) := by decide +kernel
theorem dJ2_getChar_3b067_57 : decode cJ2_getChar_3b067 57 = .ok (.ior, 1) := by decide +kernel
theorem dJ2_getChar_3b067_58 : decode cJ2_getChar_3b067 58 = .ok (.i2c, 1) := by decide +kernel
theorem dJ2_getChar_3b067_59 : decode cJ2_getChar_3b067 59 = .ok (.ireturn, 1) := by decide +kernel
theorem dJ2_length_9d52b_0 : decode cJ2_length_9d52b 0 = .ok (.aload_n 0, 1) := by decide +kernel
theorem dJ2_length_9d52b_1 : decode cJ2_length_9d52b 1 = .ok (.arraylength, 1) := by decide +kernel
theorem dJ2_length_9d52b_2 : decode cJ2_length_9d52b 2 = .ok (.iconst 1, 1) := by decide +kernel
theorem dJ2_length_9d52b_3 : decode cJ2_length_9d52b 3 = .ok (.ishr, 1) := by decide +kernel
theorem dJ2_length_9d52b_4 : decode cJ2_length_9d52b 4 = .ok (.ireturn, 1) := by decide +kernel
theorem dJ2_charAt_3b067_0 : decode cJ2_charAt_3b067 0 = .ok (.iload_n 1, 1) := by decide +kernel
theorem dJ2_charAt_3b067_1 : decode cJ2_charAt_3b067 1 = .ok (.aload_n 0, 1) := by decide +kernel
theorem dJ2_charAt_3b067_2 : decode cJ2_charAt_3b067 2 = .ok (.invokestatic 67, 3) := by decide +kernel
theorem dJ2_charAt_3b067_5 : decode cJ2_charAt_3b067 5 = .ok (.aload_n 0, 1) := by decide +kernel
theorem dJ2_charAt_3b067_6 : decode cJ2_charAt_3b067 6 = .ok (.iload_n 1, 1) := by decide +kernel
theorem dJ2_charAt_3b067_7 : decode cJ2_charAt_3b067 7 = .ok (.invokestatic 71, 3) := by decide +kernel
theorem dJ2_charAt_3b067_10 : decode cJ2_charAt_3b067 10 = .ok (.ireturn, 1) := by decide +kernel
theorem dJ2_checkIndex_2214a_0 : decode cJ2_checkIndex_2214a 0 = .ok (.iload_n 0, 1) := by decide +kernel
theorem dJ2_checkIndex_2214a_1 : decode cJ2_checkIndex_2214a 1 = .ok (.aload_n 1, 1) := by decide +kernel
theorem dJ2_checkIndex_2214a_2 : decode cJ2_checkIndex_2214a 2 = .ok (.invokestatic 48, 3) := by decide +kernel
theorem dJ2_checkIndex_2214a_5 : decode cJ2_checkIndex_2214a 5 = .ok (.invokestatic 414, 3) := by decide +kernel
theorem dJ2_checkIndex_2214a_8 : decode cJ2_checkIndex_2214a 8 = .ok (.return_, 1) := by decide +kernel
theorem dJ3_checkIndex_8e157_0 : decode cJ3_checkIndex_8e157 0 = .ok (.iload_n 0, 1) := by decide +kernel
theorem dJ3_checkIndex_8e157_1 : decode cJ3_checkIndex_8e157 1 = .ok (.ifCond .lt 8, 3) := by decide +kernel
theorem dJ3_checkIndex_8e157_4 : decode cJ3_checkIndex_8e157 4 = .ok (.iload_n 0, 1) := by decide +kernel
theorem dJ3_checkIndex_8e157_5 : decode cJ3_checkIndex_8e157 5 = .ok (.iload_n 1, 1) := by decide +kernel
theorem dJ3_checkIndex_8e157_6 : decode cJ3_checkIndex_8e157 6 = .ok (.if_icmp .lt 10, 3) := by decide +kernel
theorem dJ3_checkIndex_8e157_9 : decode cJ3_checkIndex_8e157 9 = .ok (.aload_n 2, 1) := by decide +kernel
theorem dJ3_checkIndex_8e157_10 : decode cJ3_checkIndex_8e157 10 = .ok (.iload_n 0, 1) := by decide +kernel
theorem dJ3_checkIndex_8e157_11 : decode cJ3_checkIndex_8e157 11 = .ok (.iload_n 1, 1) := by decide +kernel
theorem dJ3_checkIndex_8e157_12 : decode cJ3_checkIndex_8e157 12 = .ok (.invokestatic 95, 3) := by decide +kernel
theorem dJ3_checkIndex_8e157_15 : decode cJ3_checkIndex_8e157 15 = .ok (.athrow, 1) := by decide +kernel
theorem dJ3_checkIndex_8e157_16 : decode cJ3_checkIndex_8e157 16 = .ok (.iload_n 0, 1) := by decide +kernel
theorem dJ3_checkIndex_8e157_17 : decode cJ3_checkIndex_8e157 17 = .ok (.ireturn, 1) := by decide +kernel
theorem dL_cell_0 : decode cL_cell 0 = .ok (.iload_n 1, 1) := by decide +kernel
theorem dL_cell_1 : decode cL_cell 1 = .ok (.aload_n 0, 1) := by decide +kernel
theorem dL_cell_2 : decode cL_cell 2 = .ok (.arraylength, 1) := by decide +kernel
theorem dL_cell_3 : decode cL_cell 3 = .ok (.if_icmp .ge 9, 3) := by decide +kernel
theorem dL_cell_6 : decode cL_cell 6 = .ok (.aload_n 0, 1) := by decide +kernel
theorem dL_cell_7 : decode cL_cell 7 = .ok (.iload_n 1, 1) := by decide +kernel
theorem dL_cell_8 : decode cL_cell 8 = .ok (.iaload, 1) := by decide +kernel
theorem dL_cell_9 : decode cL_cell 9 = .ok (.goto 9, 3) := by decide +kernel
theorem dL_cell_12 : decode cL_cell 12 = .ok (.ldc 7, 2) := by decide +kernel
theorem dL_cell_14 : decode cL_cell 14 = .ok (.iload_n 1, 1) := by decide +kernel
theorem dL_cell_15 : decode cL_cell 15 = .ok (.iconst 1, 1) := by decide +kernel
theorem dL_cell_16 : decode cL_cell 16 = .ok (.iadd, 1) := by decide +kernel
theorem dL_cell_17 : decode cL_cell 17 = .ok (.imul, 1) := by decide +kernel
theorem dL_cell_18 : decode cL_cell 18 = .ok (.ireturn, 1) := by decide +kernel
theorem dL_low_0 : decode cL_low 0 = .ok (.iload_n 0, 1) := by decide +kernel
theorem dL_low_1 : decode cL_low 1 = .ok (.ldc 8, 2) := by decide +kernel
theorem dL_low_3 : decode cL_low 3 = .ok (.iand, 1) := by decide +kernel
theorem dL_low_4 : decode cL_low 4 = .ok (.iload_n 1, 1) := by decide +kernel
theorem dL_low_5 : decode cL_low 5 = .ok (.irem, 1) := by decide +kernel
theorem dL_low_6 : decode cL_low 6 = .ok (.ireturn, 1) := by decide +kernel
theorem dL_refused_0 : decode cL_refused 0 = .ok (.iload_n 1, 1) := by decide +kernel
theorem dL_refused_1 : decode cL_refused 1 = .ok (.ifCond .ge 11, 3) := by decide +kernel
theorem dL_refused_4 : decode cL_refused 4 = .ok (.iload_n 1, 1) := by decide +kernel
theorem dL_refused_5 : decode cL_refused 5 = .ok (.sipush 999, 3) := by decide +kernel
theorem dL_refused_8 : decode cL_refused 8 = .ok (.isub, 1) := by decide +kernel
theorem dL_refused_9 : decode cL_refused 9 = .ok (.goto 8, 3) := by decide +kernel
theorem dL_refused_12 : decode cL_refused 12 = .ok (.iload_n 1, 1) := by decide +kernel
theorem dL_refused_13 : decode cL_refused 13 = .ok (.sipush 1000, 3) := by decide +kernel
theorem dL_refused_16 : decode cL_refused 16 = .ok (.iadd, 1) := by decide +kernel
theorem dL_refused_17 : decode cL_refused 17 = .ok (.istore_n 2, 1) := by decide +kernel
theorem dL_refused_18 : decode cL_refused 18 = .ok (.aload_n 0, 1) := by decide +kernel
theorem dL_refused_19 : decode cL_refused 19 = .ok (.iload_n 2, 1) := by decide +kernel
theorem dL_refused_20 : decode cL_refused 20 = .ok (.invokevirtual 9, 3) := by decide +kernel
theorem dL_refused_23 : decode cL_refused 23 = .ok (.iconst (-1), 1) := by decide +kernel
theorem dL_refused_24 : decode cL_refused 24 = .ok (.if_icmp .ne 214, 3) := by decide +kernel
theorem dL_refused_27 : decode cL_refused 27 = .ok (.aload_n 0, 1) := by decide +kernel
theorem dL_refused_28 : decode cL_refused 28 = .ok (.iload_n 2, 1) := by decide +kernel
theorem dL_refused_29 : decode cL_refused 29 = .ok (.iconst 0, 1) := by decide +kernel
theorem dL_refused_30 : decode cL_refused 30 = .ok (.invokevirtual 15, 3) := by decide +kernel
theorem dL_refused_33 : decode cL_refused 33 = .ok (.iconst (-1), 1) := by decide +kernel
theorem dL_refused_34 : decode cL_refused 34 = .ok (.if_icmp .ne 204, 3) := by decide +kernel
theorem dL_refused_37 : decode cL_refused 37 = .ok (.aload_n 0, 1) := by decide +kernel
theorem dL_refused_38 : decode cL_refused 38 = .ok (.iload_n 2, 1) := by decide +kernel
theorem dL_refused_39 : decode cL_refused 39 = .ok (.iconst 0, 1) := by decide +kernel
theorem dL_refused_40 : decode cL_refused 40 = .ok (.invokevirtual 19, 3) := by decide +kernel
theorem dL_refused_43 : decode cL_refused 43 = .ok (.iconst (-1), 1) := by decide +kernel
theorem dL_refused_44 : decode cL_refused 44 = .ok (.if_icmp .ne 194, 3) := by decide +kernel
theorem dL_refused_47 : decode cL_refused 47 = .ok (.aload_n 0, 1) := by decide +kernel
theorem dL_refused_48 : decode cL_refused 48 = .ok (.iconst 0, 1) := by decide +kernel
theorem dL_refused_49 : decode cL_refused 49 = .ok (.iload_n 2, 1) := by decide +kernel
theorem dL_refused_50 : decode cL_refused 50 = .ok (.iconst 0, 1) := by decide +kernel
theorem dL_refused_51 : decode cL_refused 51 = .ok (.invokevirtual 22, 3) := by decide +kernel
theorem dL_refused_54 : decode cL_refused 54 = .ok (.iconst (-1), 1) := by decide +kernel
theorem dL_refused_55 : decode cL_refused 55 = .ok (.if_icmp .ne 183, 3) := by decide +kernel
theorem dL_refused_58 : decode cL_refused 58 = .ok (.aload_n 0, 1) := by decide +kernel
theorem dL_refused_59 : decode cL_refused 59 = .ok (.iload_n 2, 1) := by decide +kernel
theorem dL_refused_60 : decode cL_refused 60 = .ok (.iconst 0, 1) := by decide +kernel
theorem dL_refused_61 : decode cL_refused 61 = .ok (.invokevirtual 26, 3) := by decide +kernel
theorem dL_refused_64 : decode cL_refused 64 = .ok (.iconst (-1), 1) := by decide +kernel
theorem dL_refused_65 : decode cL_refused 65 = .ok (.if_icmp .ne 173, 3) := by decide +kernel
theorem dL_refused_68 : decode cL_refused 68 = .ok (.aload_n 0, 1) := by decide +kernel
theorem dL_refused_69 : decode cL_refused 69 = .ok (.iload_n 2, 1) := by decide +kernel
theorem dL_refused_70 : decode cL_refused 70 = .ok (.invokevirtual 29, 3) := by decide +kernel
theorem dL_refused_73 : decode cL_refused 73 = .ok (.iconst (-1), 1) := by decide +kernel
theorem dL_refused_74 : decode cL_refused 74 = .ok (.if_icmp .ne 164, 3) := by decide +kernel
theorem dL_refused_77 : decode cL_refused 77 = .ok (.aload_n 0, 1) := by decide +kernel
theorem dL_refused_78 : decode cL_refused 78 = .ok (.iconst 0, 1) := by decide +kernel
theorem dL_refused_79 : decode cL_refused 79 = .ok (.iconst 1, 1) := by decide +kernel
theorem dL_refused_80 : decode cL_refused 80 = .ok (.iload_n 2, 1) := by decide +kernel
theorem dL_refused_81 : decode cL_refused 81 = .ok (.invokevirtual 32, 3) := by decide +kernel
theorem dL_refused_84 : decode cL_refused 84 = .ok (.iconst (-1), 1) := by decide +kernel
theorem dL_refused_85 : decode cL_refused 85 = .ok (.if_icmp .ne 153, 3) := by decide +kernel
theorem dL_refused_88 : decode cL_refused 88 = .ok (.aload_n 0, 1) := by decide +kernel
theorem dL_refused_89 : decode cL_refused 89 = .ok (.iload_n 2, 1) := by decide +kernel
theorem dL_refused_90 : decode cL_refused 90 = .ok (.invokevirtual 35, 3) := by decide +kernel
theorem dL_refused_93 : decode cL_refused 93 = .ok (.iconst (-1), 1) := by decide +kernel
theorem dL_refused_94 : decode cL_refused 94 = .ok (.if_icmp .ne 144, 3) := by decide +kernel
theorem dL_refused_97 : decode cL_refused 97 = .ok (.aload_n 0, 1) := by decide +kernel
theorem dL_refused_98 : decode cL_refused 98 = .ok (.iconst 0, 1) := by decide +kernel
theorem dL_refused_99 : decode cL_refused 99 = .ok (.iload_n 2, 1) := by decide +kernel
theorem dL_refused_100 : decode cL_refused 100 = .ok (.invokevirtual 38, 3) := by decide +kernel
theorem dL_refused_103 : decode cL_refused 103 = .ok (.iconst (-1), 1) := by decide +kernel
theorem dL_refused_104 : decode cL_refused 104 = .ok (.if_icmp .ne 134, 3) := by decide +kernel
theorem dL_refused_107 : decode cL_refused 107 = .ok (.aload_n 0, 1) := by decide +kernel
theorem dL_refused_108 : decode cL_refused 108 = .ok (.iload_n 2, 1) := by decide +kernel
theorem dL_refused_109 : decode cL_refused 109 = .ok (.invokevirtual 41, 3) := by decide +kernel
theorem dL_refused_112 : decode cL_refused 112 = .ok (.iconst (-1), 1) := by decide +kernel
theorem dL_refused_113 : decode cL_refused 113 = .ok (.if_icmp .ne 125, 3) := by decide +kernel
theorem dL_refused_116 : decode cL_refused 116 = .ok (.aload_n 0, 1) := by decide +kernel
theorem dL_refused_117 : decode cL_refused 117 = .ok (.iload_n 2, 1) := by decide +kernel
theorem dL_refused_118 : decode cL_refused 118 = .ok (.invokevirtual 44, 3) := by decide +kernel
theorem dL_refused_121 : decode cL_refused 121 = .ok (.iconst (-1), 1) := by decide +kernel
theorem dL_refused_122 : decode cL_refused 122 = .ok (.if_icmp .ne 116, 3) := by decide +kernel
theorem dL_refused_125 : decode cL_refused 125 = .ok (.aload_n 0, 1) := by decide +kernel
theorem dL_refused_126 : decode cL_refused 126 = .ok (.iconst 0, 1) := by decide +kernel
theorem dL_refused_127 : decode cL_refused 127 = .ok (.iload_n 2, 1) := by decide +kernel
theorem dL_refused_128 : decode cL_refused 128 = .ok (.invokevirtual 47, 3) := by decide +kernel
theorem dL_refused_131 : decode cL_refused 131 = .ok (.iconst (-1), 1) := by decide +kernel
theorem dL_refused_132 : decode cL_refused 132 = .ok (.if_icmp .ne 106, 3) := by decide +kernel
theorem dL_refused_135 : decode cL_refused 135 = .ok (.aload_n 0, 1) := by decide +kernel
theorem dL_refused_136 : decode cL_refused 136 = .ok (.iload_n 2, 1) := by decide +kernel
theorem dL_refused_137 : decode cL_refused 137 = .ok (.invokevirtual 50, 3) := by decide +kernel
theorem dL_refused_140 : decode cL_refused 140 = .ok (.iconst (-1), 1) := by decide +kernel
theorem dL_refused_141 : decode cL_refused 141 = .ok (.if_icmp .ne 97, 3) := by decide +kernel
theorem dL_refused_144 : decode cL_refused 144 = .ok (.aload_n 0, 1) := by decide +kernel
theorem dL_refused_145 : decode cL_refused 145 = .ok (.iload_n 2, 1) := by decide +kernel
theorem dL_refused_146 : decode cL_refused 146 = .ok (.invokevirtual 53, 3) := by decide +kernel
theorem dL_refused_149 : decode cL_refused 149 = .ok (.iconst (-1), 1) := by decide +kernel
theorem dL_refused_150 : decode cL_refused 150 = .ok (.if_icmp .ne 88, 3) := by decide +kernel
theorem dL_refused_153 : decode cL_refused 153 = .ok (.aload_n 0, 1) := by decide +kernel
theorem dL_refused_154 : decode cL_refused 154 = .ok (.iload_n 2, 1) := by decide +kernel
theorem dL_refused_155 : decode cL_refused 155 = .ok (.invokevirtual 56, 3) := by decide +kernel
theorem dL_refused_158 : decode cL_refused 158 = .ok (.iconst (-1), 1) := by decide +kernel
theorem dL_refused_159 : decode cL_refused 159 = .ok (.if_icmp .ne 79, 3) := by decide +kernel
theorem dL_refused_162 : decode cL_refused 162 = .ok (.aload_n 0, 1) := by decide +kernel
theorem dL_refused_163 : decode cL_refused 163 = .ok (.iload_n 2, 1) := by decide +kernel
theorem dL_refused_164 : decode cL_refused 164 = .ok (.iconst 0, 1) := by decide +kernel
theorem dL_refused_165 : decode cL_refused 165 = .ok (.invokevirtual 59, 3) := by decide +kernel
theorem dL_refused_168 : decode cL_refused 168 = .ok (.iconst (-1), 1) := by decide +kernel
theorem dL_refused_169 : decode cL_refused 169 = .ok (.if_icmp .ne 69, 3) := by decide +kernel
theorem dL_refused_172 : decode cL_refused 172 = .ok (.aload_n 0, 1) := by decide +kernel
theorem dL_refused_173 : decode cL_refused 173 = .ok (.iconst 0, 1) := by decide +kernel
theorem dL_refused_174 : decode cL_refused 174 = .ok (.iconst 0, 1) := by decide +kernel
theorem dL_refused_175 : decode cL_refused 175 = .ok (.iload_n 2, 1) := by decide +kernel
theorem dL_refused_176 : decode cL_refused 176 = .ok (.invokevirtual 62, 3) := by decide +kernel
theorem dL_refused_179 : decode cL_refused 179 = .ok (.iconst (-1), 1) := by decide +kernel
theorem dL_refused_180 : decode cL_refused 180 = .ok (.if_icmp .ne 58, 3) := by decide +kernel
theorem dL_refused_183 : decode cL_refused 183 = .ok (.aload_n 0, 1) := by decide +kernel
theorem dL_refused_184 : decode cL_refused 184 = .ok (.iload_n 2, 1) := by decide +kernel
theorem dL_refused_185 : decode cL_refused 185 = .ok (.iconst 0, 1) := by decide +kernel
theorem dL_refused_186 : decode cL_refused 186 = .ok (.iconst 0, 1) := by decide +kernel
theorem dL_refused_187 : decode cL_refused 187 = .ok (.invokevirtual 65, 3) := by decide +kernel
theorem dL_refused_190 : decode cL_refused 190 = .ok (.iconst (-1), 1) := by decide +kernel
theorem dL_refused_191 : decode cL_refused 191 = .ok (.if_icmp .ne 47, 3) := by decide +kernel
theorem dL_refused_194 : decode cL_refused 194 = .ok (.aload_n 0, 1) := by decide +kernel
theorem dL_refused_195 : decode cL_refused 195 = .ok (.iload_n 2, 1) := by decide +kernel
theorem dL_refused_196 : decode cL_refused 196 = .ok (.invokevirtual 68, 3) := by decide +kernel
theorem dL_refused_199 : decode cL_refused 199 = .ok (.iconst (-1), 1) := by decide +kernel
theorem dL_refused_200 : decode cL_refused 200 = .ok (.if_icmp .ne 38, 3) := by decide +kernel
theorem dL_refused_203 : decode cL_refused 203 = .ok (.aload_n 0, 1) := by decide +kernel
theorem dL_refused_204 : decode cL_refused 204 = .ok (.iconst 0, 1) := by decide +kernel
theorem dL_refused_205 : decode cL_refused 205 = .ok (.iload_n 2, 1) := by decide +kernel
theorem dL_refused_206 : decode cL_refused 206 = .ok (.iconst 0, 1) := by decide +kernel
theorem dL_refused_207 : decode cL_refused 207 = .ok (.invokevirtual 71, 3) := by decide +kernel
theorem dL_refused_210 : decode cL_refused 210 = .ok (.iconst (-1), 1) := by decide +kernel
theorem dL_refused_211 : decode cL_refused 211 = .ok (.if_icmp .ne 27, 3) := by decide +kernel
theorem dL_refused_214 : decode cL_refused 214 = .ok (.aload_n 0, 1) := by decide +kernel
theorem dL_refused_215 : decode cL_refused 215 = .ok (.iconst 0, 1) := by decide +kernel
theorem dL_refused_216 : decode cL_refused 216 = .ok (.iload_n 2, 1) := by decide +kernel
theorem dL_refused_217 : decode cL_refused 217 = .ok (.iconst 0, 1) := by decide +kernel
theorem dL_refused_218 : decode cL_refused 218 = .ok (.invokevirtual 74, 3) := by decide +kernel
theorem dL_refused_221 : decode cL_refused 221 = .ok (.iconst (-1), 1) := by decide +kernel
theorem dL_refused_222 : decode cL_refused 222 = .ok (.if_icmp .ne 16, 3) := by decide +kernel
theorem dL_refused_225 : decode cL_refused 225 = .ok (.aload_n 0, 1) := by decide +kernel
theorem dL_refused_226 : decode cL_refused 226 = .ok (.iload_n 2, 1) := by decide +kernel
theorem dL_refused_227 : decode cL_refused 227 = .ok (.invokevirtual 77, 3) := by decide +kernel
theorem dL_refused_230 : decode cL_refused 230 = .ok (.iconst (-1), 1) := by decide +kernel
theorem dL_refused_231 : decode cL_refused 231 = .ok (.if_icmp .ne 7, 3) := by decide +kernel
theorem dL_refused_234 : decode cL_refused 234 = .ok (.iconst 1, 1) := by decide +kernel
theorem dL_refused_235 : decode cL_refused 235 = .ok (.goto 4, 3) := by decide +kernel
theorem dL_refused_238 : decode cL_refused 238 = .ok (.iconst 0, 1) := by decide +kernel
theorem dL_refused_239 : decode cL_refused 239 = .ok (.ireturn, 1) := by decide +kernel
theorem dL_turn_0 : decode cL_turn 0 = .ok (.iload_n 1, 1) := by decide +kernel
theorem dL_turn_1 : decode cL_turn 1 = .ok (.iconst 4, 1) := by decide +kernel
theorem dL_turn_2 : decode cL_turn 2 = .ok (.ishr, 1) := by decide +kernel
theorem dL_turn_3 : decode cL_turn 3 = .ok (.istore_n 2, 1) := by decide +kernel
theorem dL_turn_4 : decode cL_turn 4 = .ok (.iload_n 1, 1) := by decide +kernel
theorem dL_turn_5 : decode cL_turn 5 = .ok (.bipush 15, 2) := by decide +kernel
theorem dL_turn_7 : decode cL_turn 7 = .ok (.iand, 1) := by decide +kernel
theorem dL_turn_8 : decode cL_turn 8 = .ok (.tableswitch 437 0 14 #[76, 76, 88, 93, 121, 131, 149, 182, 187, 205, 289, 299, 324, 342, 380], 76) := by decide +kernel
theorem dL_turn_84 : decode cL_turn 84 = .ok (.aload_n 0, 1) := by decide +kernel
theorem dL_turn_85 : decode cL_turn 85 = .ok (.iconst 1, 1) := by decide +kernel
theorem dL_turn_86 : decode cL_turn 86 = .ok (.iload_n 2, 1) := by decide +kernel
theorem dL_turn_87 : decode cL_turn 87 = .ok (.iconst 4, 1) := by decide +kernel
theorem dL_turn_88 : decode cL_turn 88 = .ok (.invokestatic 80, 3) := by decide +kernel
theorem dL_turn_91 : decode cL_turn 91 = .ok (.iadd, 1) := by decide +kernel
theorem dL_turn_92 : decode cL_turn 92 = .ok (.invokevirtual 29, 3) := by decide +kernel
theorem dL_turn_95 : decode cL_turn 95 = .ok (.ireturn, 1) := by decide +kernel
theorem dL_turn_96 : decode cL_turn 96 = .ok (.aload_n 0, 1) := by decide +kernel
theorem dL_turn_97 : decode cL_turn 97 = .ok (.invokevirtual 85, 3) := by decide +kernel
theorem dL_turn_100 : decode cL_turn 100 = .ok (.ireturn, 1) := by decide +kernel
theorem dL_turn_101 : decode cL_turn 101 = .ok (.aload_n 0, 1) := by decide +kernel
theorem dL_turn_102 : decode cL_turn 102 = .ok (.iload_n 2, 1) := by decide +kernel
theorem dL_turn_103 : decode cL_turn 103 = .ok (.bipush 6, 2) := by decide +kernel
theorem dL_turn_105 : decode cL_turn 105 = .ok (.invokestatic 80, 3) := by decide +kernel
theorem dL_turn_108 : decode cL_turn 108 = .ok (.iload_n 2, 1) := by decide +kernel
theorem dL_turn_109 : decode cL_turn 109 = .ok (.iconst 3, 1) := by decide +kernel
theorem dL_turn_110 : decode cL_turn 110 = .ok (.ishr, 1) := by decide +kernel
theorem dL_turn_111 : decode cL_turn 111 = .ok (.bipush 6, 2) := by decide +kernel
theorem dL_turn_113 : decode cL_turn 113 = .ok (.invokestatic 80, 3) := by decide +kernel
theorem dL_turn_116 : decode cL_turn 116 = .ok (.iload_n 2, 1) := by decide +kernel
theorem dL_turn_117 : decode cL_turn 117 = .ok (.bipush 6, 2) := by decide +kernel
theorem dL_turn_119 : decode cL_turn 119 = .ok (.ishr, 1) := by decide +kernel
theorem dL_turn_120 : decode cL_turn 120 = .ok (.bipush 10, 2) := by decide +kernel
theorem dL_turn_122 : decode cL_turn 122 = .ok (.invokestatic 80, 3) := by decide +kernel
theorem dL_turn_125 : decode cL_turn 125 = .ok (.invokevirtual 32, 3) := by decide +kernel
theorem dL_turn_128 : decode cL_turn 128 = .ok (.ireturn, 1) := by decide +kernel
theorem dL_turn_129 : decode cL_turn 129 = .ok (.aload_n 0, 1) := by decide +kernel
theorem dL_turn_130 : decode cL_turn 130 = .ok (.iload_n 2, 1) := by decide +kernel
theorem dL_turn_131 : decode cL_turn 131 = .ok (.iconst 5, 1) := by decide +kernel
theorem dL_turn_132 : decode cL_turn 132 = .ok (.invokestatic 80, 3) := by decide +kernel
theorem dL_turn_135 : decode cL_turn 135 = .ok (.invokevirtual 35, 3) := by decide +kernel
theorem dL_turn_138 : decode cL_turn 138 = .ok (.ireturn, 1) := by decide +kernel
theorem dL_turn_139 : decode cL_turn 139 = .ok (.aload_n 0, 1) := by decide +kernel
theorem dL_turn_140 : decode cL_turn 140 = .ok (.iload_n 2, 1) := by decide +kernel
theorem dL_turn_141 : decode cL_turn 141 = .ok (.iconst 5, 1) := by decide +kernel
theorem dL_turn_142 : decode cL_turn 142 = .ok (.invokestatic 80, 3) := by decide +kernel
theorem dL_turn_145 : decode cL_turn 145 = .ok (.iload_n 2, 1) := by decide +kernel
theorem dL_turn_146 : decode cL_turn 146 = .ok (.iconst 3, 1) := by decide +kernel
theorem dL_turn_147 : decode cL_turn 147 = .ok (.ishr, 1) := by decide +kernel
theorem dL_turn_148 : decode cL_turn 148 = .ok (.bipush 6, 2) := by decide +kernel
theorem dL_turn_150 : decode cL_turn 150 = .ok (.invokestatic 80, 3) := by decide +kernel
theorem dL_turn_153 : decode cL_turn 153 = .ok (.invokevirtual 38, 3) := by decide +kernel
theorem dL_turn_156 : decode cL_turn 156 = .ok (.ireturn, 1) := by decide +kernel
theorem dL_turn_157 : decode cL_turn 157 = .ok (.iload_n 2, 1) := by decide +kernel
theorem dL_turn_158 : decode cL_turn 158 = .ok (.bipush 7, 2) := by decide +kernel
theorem dL_turn_160 : decode cL_turn 160 = .ok (.iand, 1) := by decide +kernel
theorem dL_turn_161 : decode cL_turn 161 = .ok (.ifCond .ne 17, 3) := by decide +kernel
theorem dL_turn_164 : decode cL_turn 164 = .ok (.aload_n 0, 1) := by decide +kernel
theorem dL_turn_165 : decode cL_turn 165 = .ok (.iload_n 2, 1) := by decide +kernel
theorem dL_turn_166 : decode cL_turn 166 = .ok (.iconst 3, 1) := by decide +kernel
theorem dL_turn_167 : decode cL_turn 167 = .ok (.ishr, 1) := by decide +kernel
theorem dL_turn_168 : decode cL_turn 168 = .ok (.iconst 5, 1) := by decide +kernel
theorem dL_turn_169 : decode cL_turn 169 = .ok (.invokestatic 80, 3) := by decide +kernel
theorem dL_turn_172 : decode cL_turn 172 = .ok (.invokevirtual 41, 3) := by decide +kernel
theorem dL_turn_175 : decode cL_turn 175 = .ok (.goto 14, 3) := by decide +kernel
theorem dL_turn_178 : decode cL_turn 178 = .ok (.aload_n 0, 1) := by decide +kernel
theorem dL_turn_179 : decode cL_turn 179 = .ok (.iload_n 2, 1) := by decide +kernel
theorem dL_turn_180 : decode cL_turn 180 = .ok (.iconst 3, 1) := by decide +kernel
theorem dL_turn_181 : decode cL_turn 181 = .ok (.ishr, 1) := by decide +kernel
theorem dL_turn_182 : decode cL_turn 182 = .ok (.iconst 5, 1) := by decide +kernel
theorem dL_turn_183 : decode cL_turn 183 = .ok (.invokestatic 80, 3) := by decide +kernel
theorem dL_turn_186 : decode cL_turn 186 = .ok (.invokevirtual 35, 3) := by decide +kernel
theorem dL_turn_189 : decode cL_turn 189 = .ok (.ireturn, 1) := by decide +kernel
theorem dL_turn_190 : decode cL_turn 190 = .ok (.aload_n 0, 1) := by decide +kernel
theorem dL_turn_191 : decode cL_turn 191 = .ok (.invokevirtual 89, 3) := by decide +kernel
theorem dL_turn_194 : decode cL_turn 194 = .ok (.ireturn, 1) := by decide +kernel
theorem dL_turn_195 : decode cL_turn 195 = .ok (.iload_n 2, 1) := by decide +kernel
theorem dL_turn_196 : decode cL_turn 196 = .ok (.iconst 1, 1) := by decide +kernel
theorem dL_turn_197 : decode cL_turn 197 = .ok (.iand, 1) := by decide +kernel
theorem dL_turn_198 : decode cL_turn 198 = .ok (.ifCond .ne 10, 3) := by decide +kernel
theorem dL_turn_201 : decode cL_turn 201 = .ok (.aload_n 0, 1) := by decide +kernel
theorem dL_turn_202 : decode cL_turn 202 = .ok (.invokevirtual 92, 3) := by decide +kernel
theorem dL_turn_205 : decode cL_turn 205 = .ok (.goto 7, 3) := by decide +kernel
theorem dL_turn_208 : decode cL_turn 208 = .ok (.aload_n 0, 1) := by decide +kernel
theorem dL_turn_209 : decode cL_turn 209 = .ok (.invokevirtual 95, 3) := by decide +kernel
theorem dL_turn_212 : decode cL_turn 212 = .ok (.ireturn, 1) := by decide +kernel
theorem dL_turn_213 : decode cL_turn 213 = .ok (.iload_n 2, 1) := by decide +kernel
theorem dL_turn_214 : decode cL_turn 214 = .ok (.bipush 7, 2) := by decide +kernel
theorem dL_turn_216 : decode cL_turn 216 = .ok (.iand, 1) := by decide +kernel
theorem dL_turn_217 : decode cL_turn 217 = .ok (.ifCond .ne 10, 3) := by decide +kernel
theorem dL_turn_220 : decode cL_turn 220 = .ok (.aload_n 0, 1) := by decide +kernel
theorem dL_turn_221 : decode cL_turn 221 = .ok (.invokevirtual 98, 3) := by decide +kernel
theorem dL_turn_224 : decode cL_turn 224 = .ok (.goto 72, 3) := by decide +kernel
theorem dL_turn_227 : decode cL_turn 227 = .ok (.iload_n 2, 1) := by decide +kernel
theorem dL_turn_228 : decode cL_turn 228 = .ok (.bipush 8, 2) := by decide +kernel
theorem dL_turn_230 : decode cL_turn 230 = .ok (.iand, 1) := by decide +kernel
theorem dL_turn_231 : decode cL_turn 231 = .ok (.ifCond .ne 36, 3) := by decide +kernel
theorem dL_turn_234 : decode cL_turn 234 = .ok (.aload_n 0, 1) := by decide +kernel
theorem dL_turn_235 : decode cL_turn 235 = .ok (.iload_n 2, 1) := by decide +kernel
theorem dL_turn_236 : decode cL_turn 236 = .ok (.iconst 4, 1) := by decide +kernel
theorem dL_turn_237 : decode cL_turn 237 = .ok (.ishr, 1) := by decide +kernel
theorem dL_turn_238 : decode cL_turn 238 = .ok (.bipush 6, 2) := by decide +kernel
theorem dL_turn_240 : decode cL_turn 240 = .ok (.invokestatic 80, 3) := by decide +kernel
theorem dL_turn_243 : decode cL_turn 243 = .ok (.iload_n 2, 1) := by decide +kernel
theorem dL_turn_244 : decode cL_turn 244 = .ok (.bipush 7, 2) := by decide +kernel
theorem dL_turn_246 : decode cL_turn 246 = .ok (.ishr, 1) := by decide +kernel
theorem dL_turn_247 : decode cL_turn 247 = .ok (.bipush 6, 2) := by decide +kernel
theorem dL_turn_249 : decode cL_turn 249 = .ok (.invokestatic 80, 3) := by decide +kernel
theorem dL_turn_252 : decode cL_turn 252 = .ok (.iload_n 2, 1) := by decide +kernel
theorem dL_turn_253 : decode cL_turn 253 = .ok (.bipush 10, 2) := by decide +kernel
theorem dL_turn_255 : decode cL_turn 255 = .ok (.ishr, 1) := by decide +kernel
theorem dL_turn_256 : decode cL_turn 256 = .ok (.bipush 14, 2) := by decide +kernel
theorem dL_turn_258 : decode cL_turn 258 = .ok (.invokestatic 80, 3) := by decide +kernel
theorem dL_turn_261 : decode cL_turn 261 = .ok (.invokevirtual 62, 3) := by decide +kernel
theorem dL_turn_264 : decode cL_turn 264 = .ok (.goto 32, 3) := by decide +kernel
theorem dL_turn_267 : decode cL_turn 267 = .ok (.aload_n 0, 1) := by decide +kernel
theorem dL_turn_268 : decode cL_turn 268 = .ok (.iload_n 2, 1) := by decide +kernel
theorem dL_turn_269 : decode cL_turn 269 = .ok (.iconst 4, 1) := by decide +kernel
theorem dL_turn_270 : decode cL_turn 270 = .ok (.ishr, 1) := by decide +kernel
theorem dL_turn_271 : decode cL_turn 271 = .ok (.iconst 5, 1) := by decide +kernel
theorem dL_turn_272 : decode cL_turn 272 = .ok (.invokestatic 80, 3) := by decide +kernel
theorem dL_turn_275 : decode cL_turn 275 = .ok (.iload_n 2, 1) := by decide +kernel
theorem dL_turn_276 : decode cL_turn 276 = .ok (.bipush 7, 2) := by decide +kernel
theorem dL_turn_278 : decode cL_turn 278 = .ok (.ishr, 1) := by decide +kernel
theorem dL_turn_279 : decode cL_turn 279 = .ok (.bipush 6, 2) := by decide +kernel
theorem dL_turn_281 : decode cL_turn 281 = .ok (.invokestatic 80, 3) := by decide +kernel
theorem dL_turn_284 : decode cL_turn 284 = .ok (.iload_n 2, 1) := by decide +kernel
theorem dL_turn_285 : decode cL_turn 285 = .ok (.bipush 10, 2) := by decide +kernel
theorem dL_turn_287 : decode cL_turn 287 = .ok (.ishr, 1) := by decide +kernel
theorem dL_turn_288 : decode cL_turn 288 = .ok (.bipush 6, 2) := by decide +kernel
theorem dL_turn_290 : decode cL_turn 290 = .ok (.invokestatic 80, 3) := by decide +kernel
theorem dL_turn_293 : decode cL_turn 293 = .ok (.invokevirtual 65, 3) := by decide +kernel
theorem dL_turn_296 : decode cL_turn 296 = .ok (.ireturn, 1) := by decide +kernel
theorem dL_turn_297 : decode cL_turn 297 = .ok (.aload_n 0, 1) := by decide +kernel
theorem dL_turn_298 : decode cL_turn 298 = .ok (.iload_n 2, 1) := by decide +kernel
theorem dL_turn_299 : decode cL_turn 299 = .ok (.iconst 4, 1) := by decide +kernel
theorem dL_turn_300 : decode cL_turn 300 = .ok (.invokestatic 80, 3) := by decide +kernel
theorem dL_turn_303 : decode cL_turn 303 = .ok (.invokevirtual 44, 3) := by decide +kernel
theorem dL_turn_306 : decode cL_turn 306 = .ok (.ireturn, 1) := by decide +kernel
theorem dL_turn_307 : decode cL_turn 307 = .ok (.iload_n 2, 1) := by decide +kernel
theorem dL_turn_308 : decode cL_turn 308 = .ok (.iconst 1, 1) := by decide +kernel
theorem dL_turn_309 : decode cL_turn 309 = .ok (.iand, 1) := by decide +kernel
theorem dL_turn_310 : decode cL_turn 310 = .ok (.ifCond .ne 10, 3) := by decide +kernel
theorem dL_turn_313 : decode cL_turn 313 = .ok (.aload_n 0, 1) := by decide +kernel
theorem dL_turn_314 : decode cL_turn 314 = .ok (.invokevirtual 101, 3) := by decide +kernel
theorem dL_turn_317 : decode cL_turn 317 = .ok (.goto 14, 3) := by decide +kernel
theorem dL_turn_320 : decode cL_turn 320 = .ok (.aload_n 0, 1) := by decide +kernel
theorem dL_turn_321 : decode cL_turn 321 = .ok (.iload_n 2, 1) := by decide +kernel
theorem dL_turn_322 : decode cL_turn 322 = .ok (.iconst 1, 1) := by decide +kernel
theorem dL_turn_323 : decode cL_turn 323 = .ok (.ishr, 1) := by decide +kernel
theorem dL_turn_324 : decode cL_turn 324 = .ok (.iconst 5, 1) := by decide +kernel
theorem dL_turn_325 : decode cL_turn 325 = .ok (.invokestatic 80, 3) := by decide +kernel
theorem dL_turn_328 : decode cL_turn 328 = .ok (.invokevirtual 68, 3) := by decide +kernel
theorem dL_turn_331 : decode cL_turn 331 = .ok (.ireturn, 1) := by decide +kernel
theorem dL_turn_332 : decode cL_turn 332 = .ok (.iload_n 2, 1) := by decide +kernel
theorem dL_turn_333 : decode cL_turn 333 = .ok (.iconst 1, 1) := by decide +kernel
theorem dL_turn_334 : decode cL_turn 334 = .ok (.iand, 1) := by decide +kernel
theorem dL_turn_335 : decode cL_turn 335 = .ok (.ifCond .ne 10, 3) := by decide +kernel
theorem dL_turn_338 : decode cL_turn 338 = .ok (.aload_n 0, 1) := by decide +kernel
theorem dL_turn_339 : decode cL_turn 339 = .ok (.invokevirtual 104, 3) := by decide +kernel
theorem dL_turn_342 : decode cL_turn 342 = .ok (.goto 7, 3) := by decide +kernel
theorem dL_turn_345 : decode cL_turn 345 = .ok (.aload_n 0, 1) := by decide +kernel
theorem dL_turn_346 : decode cL_turn 346 = .ok (.invokevirtual 107, 3) := by decide +kernel
theorem dL_turn_349 : decode cL_turn 349 = .ok (.ireturn, 1) := by decide +kernel
theorem dL_turn_350 : decode cL_turn 350 = .ok (.iload_n 2, 1) := by decide +kernel
theorem dL_turn_351 : decode cL_turn 351 = .ok (.iconst 1, 1) := by decide +kernel
theorem dL_turn_352 : decode cL_turn 352 = .ok (.iand, 1) := by decide +kernel
theorem dL_turn_353 : decode cL_turn 353 = .ok (.ifCond .ne 15, 3) := by decide +kernel
theorem dL_turn_356 : decode cL_turn 356 = .ok (.aload_n 0, 1) := by decide +kernel
theorem dL_turn_357 : decode cL_turn 357 = .ok (.iload_n 2, 1) := by decide +kernel
theorem dL_turn_358 : decode cL_turn 358 = .ok (.iconst 1, 1) := by decide +kernel
theorem dL_turn_359 : decode cL_turn 359 = .ok (.ishr, 1) := by decide +kernel
theorem dL_turn_360 : decode cL_turn 360 = .ok (.iconst 1, 1) := by decide +kernel
theorem dL_turn_361 : decode cL_turn 361 = .ok (.iand, 1) := by decide +kernel
theorem dL_turn_362 : decode cL_turn 362 = .ok (.invokevirtual 50, 3) := by decide +kernel
theorem dL_turn_365 : decode cL_turn 365 = .ok (.goto 22, 3) := by decide +kernel
theorem dL_turn_368 : decode cL_turn 368 = .ok (.aload_n 0, 1) := by decide +kernel
theorem dL_turn_369 : decode cL_turn 369 = .ok (.iload_n 2, 1) := by decide +kernel
theorem dL_turn_370 : decode cL_turn 370 = .ok (.iconst 1, 1) := by decide +kernel
theorem dL_turn_371 : decode cL_turn 371 = .ok (.ishr, 1) := by decide +kernel
theorem dL_turn_372 : decode cL_turn 372 = .ok (.iconst 4, 1) := by decide +kernel
theorem dL_turn_373 : decode cL_turn 373 = .ok (.invokestatic 80, 3) := by decide +kernel
theorem dL_turn_376 : decode cL_turn 376 = .ok (.iload_n 2, 1) := by decide +kernel
theorem dL_turn_377 : decode cL_turn 377 = .ok (.iconst 3, 1) := by decide +kernel
theorem dL_turn_378 : decode cL_turn 378 = .ok (.ishr, 1) := by decide +kernel
theorem dL_turn_379 : decode cL_turn 379 = .ok (.bipush 41, 2) := by decide +kernel
theorem dL_turn_381 : decode cL_turn 381 = .ok (.invokestatic 80, 3) := by decide +kernel
theorem dL_turn_384 : decode cL_turn 384 = .ok (.invokevirtual 47, 3) := by decide +kernel
theorem dL_turn_387 : decode cL_turn 387 = .ok (.ireturn, 1) := by decide +kernel
theorem dL_turn_388 : decode cL_turn 388 = .ok (.iload_n 2, 1) := by decide +kernel
theorem dL_turn_389 : decode cL_turn 389 = .ok (.bipush 7, 2) := by decide +kernel
theorem dL_turn_391 : decode cL_turn 391 = .ok (.iand, 1) := by decide +kernel
theorem dL_turn_392 : decode cL_turn 392 = .ok (.ifCond .ne 31, 3) := by decide +kernel
theorem dL_turn_395 : decode cL_turn 395 = .ok (.aload_n 0, 1) := by decide +kernel
theorem dL_turn_396 : decode cL_turn 396 = .ok (.iload_n 2, 1) := by decide +kernel
theorem dL_turn_397 : decode cL_turn 397 = .ok (.iconst 3, 1) := by decide +kernel
theorem dL_turn_398 : decode cL_turn 398 = .ok (.ishr, 1) := by decide +kernel
theorem dL_turn_399 : decode cL_turn 399 = .ok (.iconst 4, 1) := by decide +kernel
theorem dL_turn_400 : decode cL_turn 400 = .ok (.invokestatic 80, 3) := by decide +kernel
theorem dL_turn_403 : decode cL_turn 403 = .ok (.iload_n 2, 1) := by decide +kernel
theorem dL_turn_404 : decode cL_turn 404 = .ok (.iconst 5, 1) := by decide +kernel
theorem dL_turn_405 : decode cL_turn 405 = .ok (.ishr, 1) := by decide +kernel
theorem dL_turn_406 : decode cL_turn 406 = .ok (.bipush 11, 2) := by decide +kernel
theorem dL_turn_408 : decode cL_turn 408 = .ok (.invokestatic 80, 3) := by decide +kernel
theorem dL_turn_411 : decode cL_turn 411 = .ok (.iload_n 2, 1) := by decide +kernel
theorem dL_turn_412 : decode cL_turn 412 = .ok (.bipush 9, 2) := by decide +kernel
theorem dL_turn_414 : decode cL_turn 414 = .ok (.ishr, 1) := by decide +kernel
theorem dL_turn_415 : decode cL_turn 415 = .ok (.iconst 1, 1) := by decide +kernel
theorem dL_turn_416 : decode cL_turn 416 = .ok (.iand, 1) := by decide +kernel
theorem dL_turn_417 : decode cL_turn 417 = .ok (.invokevirtual 71, 3) := by decide +kernel
theorem dL_turn_420 : decode cL_turn 420 = .ok (.goto 24, 3) := by decide +kernel
theorem dL_turn_423 : decode cL_turn 423 = .ok (.aload_n 0, 1) := by decide +kernel
theorem dL_turn_424 : decode cL_turn 424 = .ok (.iload_n 2, 1) := by decide +kernel
theorem dL_turn_425 : decode cL_turn 425 = .ok (.iconst 3, 1) := by decide +kernel
theorem dL_turn_426 : decode cL_turn 426 = .ok (.ishr, 1) := by decide +kernel
theorem dL_turn_427 : decode cL_turn 427 = .ok (.bipush 6, 2) := by decide +kernel
theorem dL_turn_429 : decode cL_turn 429 = .ok (.invokestatic 80, 3) := by decide +kernel
theorem dL_turn_432 : decode cL_turn 432 = .ok (.iload_n 2, 1) := by decide +kernel
theorem dL_turn_433 : decode cL_turn 433 = .ok (.bipush 6, 2) := by decide +kernel
theorem dL_turn_435 : decode cL_turn 435 = .ok (.ishr, 1) := by decide +kernel
theorem dL_turn_436 : decode cL_turn 436 = .ok (.bipush 6, 2) := by decide +kernel
theorem dL_turn_438 : decode cL_turn 438 = .ok (.invokestatic 80, 3) := by decide +kernel
theorem dL_turn_441 : decode cL_turn 441 = .ok (.invokevirtual 59, 3) := by decide +kernel
theorem dL_turn_444 : decode cL_turn 444 = .ok (.ireturn, 1) := by decide +kernel
theorem dL_turn_445 : decode cL_turn 445 = .ok (.aload_n 0, 1) := by decide +kernel
theorem dL_turn_446 : decode cL_turn 446 = .ok (.iload_n 2, 1) := by decide +kernel
theorem dL_turn_447 : decode cL_turn 447 = .ok (.sipush 10000, 3) := by decide +kernel
theorem dL_turn_450 : decode cL_turn 450 = .ok (.invokestatic 80, 3) := by decide +kernel
theorem dL_turn_453 : decode cL_turn 453 = .ok (.iconst 1, 1) := by decide +kernel
theorem dL_turn_454 : decode cL_turn 454 = .ok (.iload_n 2, 1) := by decide +kernel
theorem dL_turn_455 : decode cL_turn 455 = .ok (.bipush 14, 2) := by decide +kernel
theorem dL_turn_457 : decode cL_turn 457 = .ok (.ishr, 1) := by decide +kernel
theorem dL_turn_458 : decode cL_turn 458 = .ok (.bipush 12, 2) := by decide +kernel
theorem dL_turn_460 : decode cL_turn 460 = .ok (.invokestatic 80, 3) := by decide +kernel
theorem dL_turn_463 : decode cL_turn 463 = .ok (.iadd, 1) := by decide +kernel
theorem dL_turn_464 : decode cL_turn 464 = .ok (.iload_n 2, 1) := by decide +kernel
theorem dL_turn_465 : decode cL_turn 465 = .ok (.bipush 18, 2) := by decide +kernel
theorem dL_turn_467 : decode cL_turn 467 = .ok (.ishr, 1) := by decide +kernel
theorem dL_turn_468 : decode cL_turn 468 = .ok (.iconst 3, 1) := by decide +kernel
theorem dL_turn_469 : decode cL_turn 469 = .ok (.invokestatic 80, 3) := by decide +kernel
theorem dL_turn_472 : decode cL_turn 472 = .ok (.invokevirtual 74, 3) := by decide +kernel
theorem dL_turn_475 : decode cL_turn 475 = .ok (.ireturn, 1) := by decide +kernel
theorem dL_same_0 : decode cL_same 0 = .ok (.iconst 1, 1) := by decide +kernel
theorem dL_same_1 : decode cL_same 1 = .ok (.istore_n 2, 1) := by decide +kernel
theorem dL_same_2 : decode cL_same 2 = .ok (.iconst 0, 1) := by decide +kernel
theorem dL_same_3 : decode cL_same 3 = .ok (.istore_n 3, 1) := by decide +kernel
theorem dL_same_4 : decode cL_same 4 = .ok (.iload_n 3, 1) := by decide +kernel
theorem dL_same_5 : decode cL_same 5 = .ok (.bipush 13, 2) := by decide +kernel
theorem dL_same_7 : decode cL_same 7 = .ok (.if_icmp .ge 32, 3) := by decide +kernel
theorem dL_same_10 : decode cL_same 10 = .ok (.iload_n 2, 1) := by decide +kernel
theorem dL_same_11 : decode cL_same 11 = .ok (.ifCond .eq 20, 3) := by decide +kernel
theorem dL_same_14 : decode cL_same 14 = .ok (.aload_n 0, 1) := by decide +kernel
theorem dL_same_15 : decode cL_same 15 = .ok (.iload_n 3, 1) := by decide +kernel
theorem dL_same_16 : decode cL_same 16 = .ok (.invokevirtual 77, 3) := by decide +kernel
theorem dL_same_19 : decode cL_same 19 = .ok (.aload_n 1, 1) := by decide +kernel
theorem dL_same_20 : decode cL_same 20 = .ok (.iload_n 3, 1) := by decide +kernel
theorem dL_same_21 : decode cL_same 21 = .ok (.invokevirtual 77, 3) := by decide +kernel
theorem dL_same_24 : decode cL_same 24 = .ok (.if_icmp .ne 7, 3) := by decide +kernel
theorem dL_same_27 : decode cL_same 27 = .ok (.iconst 1, 1) := by decide +kernel
theorem dL_same_28 : decode cL_same 28 = .ok (.goto 4, 3) := by decide +kernel
theorem dL_same_31 : decode cL_same 31 = .ok (.iconst 0, 1) := by decide +kernel
theorem dL_same_32 : decode cL_same 32 = .ok (.istore_n 2, 1) := by decide +kernel
theorem dL_same_33 : decode cL_same 33 = .ok (.iinc 3 1, 3) := by decide +kernel
theorem dL_same_36 : decode cL_same 36 = .ok (.goto (-32), 3) := by decide +kernel
theorem dL_same_39 : decode cL_same 39 = .ok (.iconst 0, 1) := by decide +kernel
theorem dL_same_40 : decode cL_same 40 = .ok (.istore_n 3, 1) := by decide +kernel
theorem dL_same_41 : decode cL_same 41 = .ok (.iload_n 3, 1) := by decide +kernel
theorem dL_same_42 : decode cL_same 42 = .ok (.bipush 30, 2) := by decide +kernel
theorem dL_same_44 : decode cL_same 44 = .ok (.if_icmp .ge 153, 3) := by decide +kernel
theorem dL_same_47 : decode cL_same 47 = .ok (.iload_n 2, 1) := by decide +kernel
theorem dL_same_48 : decode cL_same 48 = .ok (.ifCond .eq 141, 3) := by decide +kernel
theorem dL_same_51 : decode cL_same 51 = .ok (.aload_n 0, 1) := by decide +kernel
theorem dL_same_52 : decode cL_same 52 = .ok (.iload_n 3, 1) := by decide +kernel
theorem dL_same_53 : decode cL_same 53 = .ok (.bipush 6, 2) := by decide +kernel
theorem dL_same_55 : decode cL_same 55 = .ok (.idiv, 1) := by decide +kernel
theorem dL_same_56 : decode cL_same 56 = .ok (.iload_n 3, 1) := by decide +kernel
theorem dL_same_57 : decode cL_same 57 = .ok (.bipush 6, 2) := by decide +kernel
theorem dL_same_59 : decode cL_same 59 = .ok (.irem, 1) := by decide +kernel
theorem dL_same_60 : decode cL_same 60 = .ok (.iconst 0, 1) := by decide +kernel
theorem dL_same_61 : decode cL_same 61 = .ok (.invokevirtual 22, 3) := by decide +kernel
theorem dL_same_64 : decode cL_same 64 = .ok (.aload_n 1, 1) := by decide +kernel
theorem dL_same_65 : decode cL_same 65 = .ok (.iload_n 3, 1) := by decide +kernel
theorem dL_same_66 : decode cL_same 66 = .ok (.bipush 6, 2) := by decide +kernel
theorem dL_same_68 : decode cL_same 68 = .ok (.idiv, 1) := by decide +kernel
theorem dL_same_69 : decode cL_same 69 = .ok (.iload_n 3, 1) := by decide +kernel
theorem dL_same_70 : decode cL_same 70 = .ok (.bipush 6, 2) := by decide +kernel
theorem dL_same_72 : decode cL_same 72 = .ok (.irem, 1) := by decide +kernel
theorem dL_same_73 : decode cL_same 73 = .ok (.iconst 0, 1) := by decide +kernel
theorem dL_same_74 : decode cL_same 74 = .ok (.invokevirtual 22, 3) := by decide +kernel
theorem dL_same_77 : decode cL_same 77 = .ok (.if_icmp .ne 112, 3) := by decide +kernel
theorem dL_same_80 : decode cL_same 80 = .ok (.aload_n 0, 1) := by decide +kernel
theorem dL_same_81 : decode cL_same 81 = .ok (.iload_n 3, 1) := by decide +kernel
theorem dL_same_82 : decode cL_same 82 = .ok (.bipush 6, 2) := by decide +kernel
theorem dL_same_84 : decode cL_same 84 = .ok (.idiv, 1) := by decide +kernel
theorem dL_same_85 : decode cL_same 85 = .ok (.iload_n 3, 1) := by decide +kernel
theorem dL_same_86 : decode cL_same 86 = .ok (.bipush 6, 2) := by decide +kernel
theorem dL_same_88 : decode cL_same 88 = .ok (.irem, 1) := by decide +kernel
theorem dL_same_89 : decode cL_same 89 = .ok (.iconst 2, 1) := by decide +kernel
theorem dL_same_90 : decode cL_same 90 = .ok (.invokevirtual 22, 3) := by decide +kernel
theorem dL_same_93 : decode cL_same 93 = .ok (.aload_n 1, 1) := by decide +kernel
theorem dL_same_94 : decode cL_same 94 = .ok (.iload_n 3, 1) := by decide +kernel
theorem dL_same_95 : decode cL_same 95 = .ok (.bipush 6, 2) := by decide +kernel
theorem dL_same_97 : decode cL_same 97 = .ok (.idiv, 1) := by decide +kernel
theorem dL_same_98 : decode cL_same 98 = .ok (.iload_n 3, 1) := by decide +kernel
theorem dL_same_99 : decode cL_same 99 = .ok (.bipush 6, 2) := by decide +kernel
theorem dL_same_101 : decode cL_same 101 = .ok (.irem, 1) := by decide +kernel
theorem dL_same_102 : decode cL_same 102 = .ok (.iconst 2, 1) := by decide +kernel
theorem dL_same_103 : decode cL_same 103 = .ok (.invokevirtual 22, 3) := by decide +kernel
theorem dL_same_106 : decode cL_same 106 = .ok (.if_icmp .ne 83, 3) := by decide +kernel
theorem dL_same_109 : decode cL_same 109 = .ok (.aload_n 0, 1) := by decide +kernel
theorem dL_same_110 : decode cL_same 110 = .ok (.iload_n 3, 1) := by decide +kernel
theorem dL_same_111 : decode cL_same 111 = .ok (.bipush 6, 2) := by decide +kernel
theorem dL_same_113 : decode cL_same 113 = .ok (.idiv, 1) := by decide +kernel
theorem dL_same_114 : decode cL_same 114 = .ok (.iload_n 3, 1) := by decide +kernel
theorem dL_same_115 : decode cL_same 115 = .ok (.bipush 6, 2) := by decide +kernel
theorem dL_same_117 : decode cL_same 117 = .ok (.irem, 1) := by decide +kernel
theorem dL_same_118 : decode cL_same 118 = .ok (.invokevirtual 15, 3) := by decide +kernel
theorem dL_same_121 : decode cL_same 121 = .ok (.aload_n 1, 1) := by decide +kernel
theorem dL_same_122 : decode cL_same 122 = .ok (.iload_n 3, 1) := by decide +kernel
theorem dL_same_123 : decode cL_same 123 = .ok (.bipush 6, 2) := by decide +kernel
theorem dL_same_125 : decode cL_same 125 = .ok (.idiv, 1) := by decide +kernel
theorem dL_same_126 : decode cL_same 126 = .ok (.iload_n 3, 1) := by decide +kernel
theorem dL_same_127 : decode cL_same 127 = .ok (.bipush 6, 2) := by decide +kernel
theorem dL_same_129 : decode cL_same 129 = .ok (.irem, 1) := by decide +kernel
theorem dL_same_130 : decode cL_same 130 = .ok (.invokevirtual 15, 3) := by decide +kernel
theorem dL_same_133 : decode cL_same 133 = .ok (.if_icmp .ne 56, 3) := by decide +kernel
theorem dL_same_136 : decode cL_same 136 = .ok (.iload_n 3, 1) := by decide +kernel
theorem dL_same_137 : decode cL_same 137 = .ok (.bipush 14, 2) := by decide +kernel
theorem dL_same_139 : decode cL_same 139 = .ok (.if_icmp .gt 26, 3) := by decide +kernel
theorem dL_same_142 : decode cL_same 142 = .ok (.aload_n 0, 1) := by decide +kernel
theorem dL_same_143 : decode cL_same 143 = .ok (.iload_n 3, 1) := by decide +kernel
theorem dL_same_144 : decode cL_same 144 = .ok (.iconst 3, 1) := by decide +kernel
theorem dL_same_145 : decode cL_same 145 = .ok (.idiv, 1) := by decide +kernel
theorem dL_same_146 : decode cL_same 146 = .ok (.iload_n 3, 1) := by decide +kernel
theorem dL_same_147 : decode cL_same 147 = .ok (.iconst 3, 1) := by decide +kernel
theorem dL_same_148 : decode cL_same 148 = .ok (.irem, 1) := by decide +kernel
theorem dL_same_149 : decode cL_same 149 = .ok (.invokevirtual 19, 3) := by decide +kernel
theorem dL_same_152 : decode cL_same 152 = .ok (.aload_n 1, 1) := by decide +kernel
theorem dL_same_153 : decode cL_same 153 = .ok (.iload_n 3, 1) := by decide +kernel
theorem dL_same_154 : decode cL_same 154 = .ok (.iconst 3, 1) := by decide +kernel
theorem dL_same_155 : decode cL_same 155 = .ok (.idiv, 1) := by decide +kernel
theorem dL_same_156 : decode cL_same 156 = .ok (.iload_n 3, 1) := by decide +kernel
theorem dL_same_157 : decode cL_same 157 = .ok (.iconst 3, 1) := by decide +kernel
theorem dL_same_158 : decode cL_same 158 = .ok (.irem, 1) := by decide +kernel
theorem dL_same_159 : decode cL_same 159 = .ok (.invokevirtual 19, 3) := by decide +kernel
theorem dL_same_162 : decode cL_same 162 = .ok (.if_icmp .ne 27, 3) := by decide +kernel
theorem dL_same_165 : decode cL_same 165 = .ok (.iload_n 3, 1) := by decide +kernel
theorem dL_same_166 : decode cL_same 166 = .ok (.iconst 3, 1) := by decide +kernel
theorem dL_same_167 : decode cL_same 167 = .ok (.if_icmp .gt 18, 3) := by decide +kernel
theorem dL_same_170 : decode cL_same 170 = .ok (.aload_n 0, 1) := by decide +kernel
theorem dL_same_171 : decode cL_same 171 = .ok (.iload_n 3, 1) := by decide +kernel
theorem dL_same_172 : decode cL_same 172 = .ok (.iconst 0, 1) := by decide +kernel
theorem dL_same_173 : decode cL_same 173 = .ok (.invokevirtual 26, 3) := by decide +kernel
theorem dL_same_176 : decode cL_same 176 = .ok (.aload_n 1, 1) := by decide +kernel
theorem dL_same_177 : decode cL_same 177 = .ok (.iload_n 3, 1) := by decide +kernel
theorem dL_same_178 : decode cL_same 178 = .ok (.iconst 0, 1) := by decide +kernel
theorem dL_same_179 : decode cL_same 179 = .ok (.invokevirtual 26, 3) := by decide +kernel
theorem dL_same_182 : decode cL_same 182 = .ok (.if_icmp .ne 7, 3) := by decide +kernel
theorem dL_same_185 : decode cL_same 185 = .ok (.iconst 1, 1) := by decide +kernel
theorem dL_same_186 : decode cL_same 186 = .ok (.goto 4, 3) := by decide +kernel
theorem dL_same_189 : decode cL_same 189 = .ok (.iconst 0, 1) := by decide +kernel
theorem dL_same_190 : decode cL_same 190 = .ok (.istore_n 2, 1) := by decide +kernel
theorem dL_same_191 : decode cL_same 191 = .ok (.iinc 3 1, 3) := by decide +kernel
theorem dL_same_194 : decode cL_same 194 = .ok (.goto (-153), 3) := by decide +kernel
theorem dL_same_197 : decode cL_same 197 = .ok (.iload_n 2, 1) := by decide +kernel
theorem dL_same_198 : decode cL_same 198 = .ok (.ireturn, 1) := by decide +kernel
theorem dL_law_0 : decode cL_law 0 = .ok (.new 10, 3) := by decide +kernel
theorem dL_law_3 : decode cL_law 3 = .ok (.dup, 1) := by decide +kernel
theorem dL_law_4 : decode cL_law 4 = .ok (.invokespecial 110, 3) := by decide +kernel
theorem dL_law_7 : decode cL_law 7 = .ok (.astore_n 1, 1) := by decide +kernel
theorem dL_law_8 : decode cL_law 8 = .ok (.new 10, 3) := by decide +kernel
theorem dL_law_11 : decode cL_law 11 = .ok (.dup, 1) := by decide +kernel
theorem dL_law_12 : decode cL_law 12 = .ok (.invokespecial 110, 3) := by decide +kernel
theorem dL_law_15 : decode cL_law 15 = .ok (.astore_n 2, 1) := by decide +kernel
theorem dL_law_16 : decode cL_law 16 = .ok (.iconst 1, 1) := by decide +kernel
theorem dL_law_17 : decode cL_law 17 = .ok (.istore_n 3, 1) := by decide +kernel
theorem dL_law_18 : decode cL_law 18 = .ok (.iconst 0, 1) := by decide +kernel
theorem dL_law_19 : decode cL_law 19 = .ok (.istore 4, 2) := by decide +kernel
theorem dL_law_21 : decode cL_law 21 = .ok (.iload 4, 2) := by decide +kernel
theorem dL_law_23 : decode cL_law 23 = .ok (.bipush 20, 2) := by decide +kernel
theorem dL_law_25 : decode cL_law 25 = .ok (.if_icmp .ge 308, 3) := by decide +kernel
theorem dL_law_28 : decode cL_law 28 = .ok (.iload_n 3, 1) := by decide +kernel
theorem dL_law_29 : decode cL_law 29 = .ok (.ifCond .eq 304, 3) := by decide +kernel
theorem dL_law_32 : decode cL_law 32 = .ok (.aload_n 0, 1) := by decide +kernel
theorem dL_law_33 : decode cL_law 33 = .ok (.iload 4, 2) := by decide +kernel
theorem dL_law_35 : decode cL_law 35 = .ok (.invokestatic 111, 3) := by decide +kernel
theorem dL_law_38 : decode cL_law 38 = .ok (.istore 5, 2) := by decide +kernel
theorem dL_law_40 : decode cL_law 40 = .ok (.aload_n 2, 1) := by decide +kernel
theorem dL_law_41 : decode cL_law 41 = .ok (.iload 5, 2) := by decide +kernel
theorem dL_law_43 : decode cL_law 43 = .ok (.bipush 6, 2) := by decide +kernel
theorem dL_law_45 : decode cL_law 45 = .ok (.ishr, 1) := by decide +kernel
theorem dL_law_46 : decode cL_law 46 = .ok (.invokestatic 115, 3) := by decide +kernel
theorem dL_law_49 : decode cL_law 49 = .ok (.ifCond .eq 30, 3) := by decide +kernel
theorem dL_law_52 : decode cL_law 52 = .ok (.aload_n 1, 1) := by decide +kernel
theorem dL_law_53 : decode cL_law 53 = .ok (.iload 5, 2) := by decide +kernel
theorem dL_law_55 : decode cL_law 55 = .ok (.invokestatic 119, 3) := by decide +kernel
theorem dL_law_58 : decode cL_law 58 = .ok (.aload_n 2, 1) := by decide +kernel
theorem dL_law_59 : decode cL_law 59 = .ok (.iload 5, 2) := by decide +kernel
theorem dL_law_61 : decode cL_law 61 = .ok (.invokestatic 119, 3) := by decide +kernel
theorem dL_law_64 : decode cL_law 64 = .ok (.if_icmp .ne 15, 3) := by decide +kernel
theorem dL_law_67 : decode cL_law 67 = .ok (.aload_n 1, 1) := by decide +kernel
theorem dL_law_68 : decode cL_law 68 = .ok (.aload_n 2, 1) := by decide +kernel
theorem dL_law_69 : decode cL_law 69 = .ok (.invokestatic 123, 3) := by decide +kernel
theorem dL_law_72 : decode cL_law 72 = .ok (.ifCond .eq 7, 3) := by decide +kernel
theorem dL_law_75 : decode cL_law 75 = .ok (.iconst 1, 1) := by decide +kernel
theorem dL_law_76 : decode cL_law 76 = .ok (.goto 4, 3) := by decide +kernel
theorem dL_law_79 : decode cL_law 79 = .ok (.iconst 0, 1) := by decide +kernel
theorem dL_law_80 : decode cL_law 80 = .ok (.istore_n 3, 1) := by decide +kernel
theorem dL_law_81 : decode cL_law 81 = .ok (.aload_n 2, 1) := by decide +kernel
theorem dL_law_82 : decode cL_law 82 = .ok (.bipush 10, 2) := by decide +kernel
theorem dL_law_84 : decode cL_law 84 = .ok (.invokevirtual 77, 3) := by decide +kernel
theorem dL_law_87 : decode cL_law 87 = .ok (.istore 6, 2) := by decide +kernel
theorem dL_law_89 : decode cL_law 89 = .ok (.iload 6, 2) := by decide +kernel
theorem dL_law_91 : decode cL_law 91 = .ok (.iconst 3, 1) := by decide +kernel
theorem dL_law_92 : decode cL_law 92 = .ok (.if_icmp .ge 235, 3) := by decide +kernel
theorem dL_law_95 : decode cL_law 95 = .ok (.iload_n 3, 1) := by decide +kernel
theorem dL_law_96 : decode cL_law 96 = .ok (.ifCond .eq 231, 3) := by decide +kernel
theorem dL_law_99 : decode cL_law 99 = .ok (.iload 5, 2) := by decide +kernel
theorem dL_law_101 : decode cL_law 101 = .ok (.iconst 5, 1) := by decide +kernel
theorem dL_law_102 : decode cL_law 102 = .ok (.ishr, 1) := by decide +kernel
theorem dL_law_103 : decode cL_law 103 = .ok (.bipush 6, 2) := by decide +kernel
theorem dL_law_105 : decode cL_law 105 = .ok (.invokestatic 80, 3) := by decide +kernel
theorem dL_law_108 : decode cL_law 108 = .ok (.istore 7, 2) := by decide +kernel
theorem dL_law_110 : decode cL_law 110 = .ok (.aload_n 2, 1) := by decide +kernel
theorem dL_law_111 : decode cL_law 111 = .ok (.iconst 1, 1) := by decide +kernel
theorem dL_law_112 : decode cL_law 112 = .ok (.iload 5, 2) := by decide +kernel
theorem dL_law_114 : decode cL_law 114 = .ok (.bipush 8, 2) := by decide +kernel
theorem dL_law_116 : decode cL_law 116 = .ok (.ishr, 1) := by decide +kernel
theorem dL_law_117 : decode cL_law 117 = .ok (.iconst 3, 1) := by decide +kernel
theorem dL_law_118 : decode cL_law 118 = .ok (.invokestatic 80, 3) := by decide +kernel
theorem dL_law_121 : decode cL_law 121 = .ok (.iadd, 1) := by decide +kernel
theorem dL_law_122 : decode cL_law 122 = .ok (.invokevirtual 29, 3) := by decide +kernel
theorem dL_law_125 : decode cL_law 125 = .ok (.ifCond .le 7, 3) := by decide +kernel
theorem dL_law_128 : decode cL_law 128 = .ok (.iconst 1, 1) := by decide +kernel
theorem dL_law_129 : decode cL_law 129 = .ok (.goto 4, 3) := by decide +kernel
theorem dL_law_132 : decode cL_law 132 = .ok (.iconst 0, 1) := by decide +kernel
theorem dL_law_133 : decode cL_law 133 = .ok (.istore 8, 2) := by decide +kernel
theorem dL_law_135 : decode cL_law 135 = .ok (.iload 8, 2) := by decide +kernel
theorem dL_law_137 : decode cL_law 137 = .ok (.aload_n 2, 1) := by decide +kernel
theorem dL_law_138 : decode cL_law 138 = .ok (.invokevirtual 85, 3) := by decide +kernel
theorem dL_law_141 : decode cL_law 141 = .ok (.ifCond .ge 7, 3) := by decide +kernel
theorem dL_law_144 : decode cL_law 144 = .ok (.iconst 0, 1) := by decide +kernel
theorem dL_law_145 : decode cL_law 145 = .ok (.goto 4, 3) := by decide +kernel
theorem dL_law_148 : decode cL_law 148 = .ok (.iconst 1, 1) := by decide +kernel
theorem dL_law_149 : decode cL_law 149 = .ok (.iadd, 1) := by decide +kernel
theorem dL_law_150 : decode cL_law 150 = .ok (.istore 8, 2) := by decide +kernel
theorem dL_law_152 : decode cL_law 152 = .ok (.iload 8, 2) := by decide +kernel
theorem dL_law_154 : decode cL_law 154 = .ok (.aload_n 2, 1) := by decide +kernel
theorem dL_law_155 : decode cL_law 155 = .ok (.iload 7, 2) := by decide +kernel
theorem dL_law_157 : decode cL_law 157 = .ok (.iload 7, 2) := by decide +kernel
theorem dL_law_159 : decode cL_law 159 = .ok (.iconst 1, 1) := by decide +kernel
theorem dL_law_160 : decode cL_law 160 = .ok (.iadd, 1) := by decide +kernel
theorem dL_law_161 : decode cL_law 161 = .ok (.bipush 6, 2) := by decide +kernel
theorem dL_law_163 : decode cL_law 163 = .ok (.irem, 1) := by decide +kernel
theorem dL_law_164 : decode cL_law 164 = .ok (.iload 5, 2) := by decide +kernel
theorem dL_law_166 : decode cL_law 166 = .ok (.bipush 11, 2) := by decide +kernel
theorem dL_law_168 : decode cL_law 168 = .ok (.ishr, 1) := by decide +kernel
theorem dL_law_169 : decode cL_law 169 = .ok (.bipush 10, 2) := by decide +kernel
theorem dL_law_171 : decode cL_law 171 = .ok (.invokestatic 80, 3) := by decide +kernel
theorem dL_law_174 : decode cL_law 174 = .ok (.invokevirtual 32, 3) := by decide +kernel
theorem dL_law_177 : decode cL_law 177 = .ok (.ifCond .ge 7, 3) := by decide +kernel
theorem dL_law_180 : decode cL_law 180 = .ok (.iconst 0, 1) := by decide +kernel
theorem dL_law_181 : decode cL_law 181 = .ok (.goto 4, 3) := by decide +kernel
theorem dL_law_184 : decode cL_law 184 = .ok (.iconst 1, 1) := by decide +kernel
theorem dL_law_185 : decode cL_law 185 = .ok (.iadd, 1) := by decide +kernel
theorem dL_law_186 : decode cL_law 186 = .ok (.istore 8, 2) := by decide +kernel
theorem dL_law_188 : decode cL_law 188 = .ok (.iload 8, 2) := by decide +kernel
theorem dL_law_190 : decode cL_law 190 = .ok (.aload_n 2, 1) := by decide +kernel
theorem dL_law_191 : decode cL_law 191 = .ok (.iload 5, 2) := by decide +kernel
theorem dL_law_193 : decode cL_law 193 = .ok (.bipush 15, 2) := by decide +kernel
theorem dL_law_195 : decode cL_law 195 = .ok (.ishr, 1) := by decide +kernel
theorem dL_law_196 : decode cL_law 196 = .ok (.iconst 5, 1) := by decide +kernel
theorem dL_law_197 : decode cL_law 197 = .ok (.invokestatic 80, 3) := by decide +kernel
theorem dL_law_200 : decode cL_law 200 = .ok (.invokevirtual 35, 3) := by decide +kernel
theorem dL_law_203 : decode cL_law 203 = .ok (.ifCond .ge 7, 3) := by decide +kernel
theorem dL_law_206 : decode cL_law 206 = .ok (.iconst 0, 1) := by decide +kernel
theorem dL_law_207 : decode cL_law 207 = .ok (.goto 4, 3) := by decide +kernel
theorem dL_law_210 : decode cL_law 210 = .ok (.iconst 1, 1) := by decide +kernel
theorem dL_law_211 : decode cL_law 211 = .ok (.iadd, 1) := by decide +kernel
theorem dL_law_212 : decode cL_law 212 = .ok (.istore 8, 2) := by decide +kernel
theorem dL_law_214 : decode cL_law 214 = .ok (.iload 8, 2) := by decide +kernel
theorem dL_law_216 : decode cL_law 216 = .ok (.aload_n 2, 1) := by decide +kernel
theorem dL_law_217 : decode cL_law 217 = .ok (.iload 5, 2) := by decide +kernel
theorem dL_law_219 : decode cL_law 219 = .ok (.bipush 15, 2) := by decide +kernel
theorem dL_law_221 : decode cL_law 221 = .ok (.ishr, 1) := by decide +kernel
theorem dL_law_222 : decode cL_law 222 = .ok (.iconst 5, 1) := by decide +kernel
theorem dL_law_223 : decode cL_law 223 = .ok (.invokestatic 80, 3) := by decide +kernel
theorem dL_law_226 : decode cL_law 226 = .ok (.iload 5, 2) := by decide +kernel
theorem dL_law_228 : decode cL_law 228 = .ok (.bipush 18, 2) := by decide +kernel
theorem dL_law_230 : decode cL_law 230 = .ok (.ishr, 1) := by decide +kernel
theorem dL_law_231 : decode cL_law 231 = .ok (.bipush 6, 2) := by decide +kernel
theorem dL_law_233 : decode cL_law 233 = .ok (.invokestatic 80, 3) := by decide +kernel
theorem dL_law_236 : decode cL_law 236 = .ok (.invokevirtual 38, 3) := by decide +kernel
theorem dL_law_239 : decode cL_law 239 = .ok (.ifCond .ge 7, 3) := by decide +kernel
theorem dL_law_242 : decode cL_law 242 = .ok (.iconst 0, 1) := by decide +kernel
theorem dL_law_243 : decode cL_law 243 = .ok (.goto 4, 3) := by decide +kernel
theorem dL_law_246 : decode cL_law 246 = .ok (.iconst 1, 1) := by decide +kernel
theorem dL_law_247 : decode cL_law 247 = .ok (.iadd, 1) := by decide +kernel
theorem dL_law_248 : decode cL_law 248 = .ok (.istore 8, 2) := by decide +kernel
theorem dL_law_250 : decode cL_law 250 = .ok (.aload_n 2, 1) := by decide +kernel
theorem dL_law_251 : decode cL_law 251 = .ok (.bipush 10, 2) := by decide +kernel
theorem dL_law_253 : decode cL_law 253 = .ok (.invokevirtual 77, 3) := by decide +kernel
theorem dL_law_256 : decode cL_law 256 = .ok (.iload 6, 2) := by decide +kernel
theorem dL_law_258 : decode cL_law 258 = .ok (.iload 8, 2) := by decide +kernel
theorem dL_law_260 : decode cL_law 260 = .ok (.iadd, 1) := by decide +kernel
theorem dL_law_261 : decode cL_law 261 = .ok (.if_icmp .ne 7, 3) := by decide +kernel
theorem dL_law_264 : decode cL_law 264 = .ok (.iconst 1, 1) := by decide +kernel
theorem dL_law_265 : decode cL_law 265 = .ok (.goto 4, 3) := by decide +kernel
theorem dL_law_268 : decode cL_law 268 = .ok (.iconst 0, 1) := by decide +kernel
theorem dL_law_269 : decode cL_law 269 = .ok (.istore_n 3, 1) := by decide +kernel
theorem dL_law_270 : decode cL_law 270 = .ok (.iload 8, 2) := by decide +kernel
theorem dL_law_272 : decode cL_law 272 = .ok (.iconst 1, 1) := by decide +kernel
theorem dL_law_273 : decode cL_law 273 = .ok (.isub, 1) := by decide +kernel
theorem dL_law_274 : decode cL_law 274 = .ok (.istore 9, 2) := by decide +kernel
theorem dL_law_276 : decode cL_law 276 = .ok (.iload 9, 2) := by decide +kernel
theorem dL_law_278 : decode cL_law 278 = .ok (.ifCond .lt 31, 3) := by decide +kernel
theorem dL_law_281 : decode cL_law 281 = .ok (.iload_n 3, 1) := by decide +kernel
theorem dL_law_282 : decode cL_law 282 = .ok (.ifCond .eq 27, 3) := by decide +kernel
theorem dL_law_285 : decode cL_law 285 = .ok (.aload_n 2, 1) := by decide +kernel
theorem dL_law_286 : decode cL_law 286 = .ok (.invokevirtual 89, 3) := by decide +kernel
theorem dL_law_289 : decode cL_law 289 = .ok (.iload 6, 2) := by decide +kernel
theorem dL_law_291 : decode cL_law 291 = .ok (.iload 9, 2) := by decide +kernel
theorem dL_law_293 : decode cL_law 293 = .ok (.iadd, 1) := by decide +kernel
theorem dL_law_294 : decode cL_law 294 = .ok (.if_icmp .ne 7, 3) := by decide +kernel
theorem dL_law_297 : decode cL_law 297 = .ok (.iconst 1, 1) := by decide +kernel
theorem dL_law_298 : decode cL_law 298 = .ok (.goto 4, 3) := by decide +kernel
theorem dL_law_301 : decode cL_law 301 = .ok (.iconst 0, 1) := by decide +kernel
theorem dL_law_302 : decode cL_law 302 = .ok (.istore_n 3, 1) := by decide +kernel
theorem dL_law_303 : decode cL_law 303 = .ok (.iinc 9 (-1), 3) := by decide +kernel
theorem dL_law_306 : decode cL_law 306 = .ok (.goto (-30), 3) := by decide +kernel
theorem dL_law_309 : decode cL_law 309 = .ok (.iload_n 3, 1) := by decide +kernel
theorem dL_law_310 : decode cL_law 310 = .ok (.ifCond .eq 15, 3) := by decide +kernel
theorem dL_law_313 : decode cL_law 313 = .ok (.aload_n 1, 1) := by decide +kernel
theorem dL_law_314 : decode cL_law 314 = .ok (.aload_n 2, 1) := by decide +kernel
theorem dL_law_315 : decode cL_law 315 = .ok (.invokestatic 123, 3) := by decide +kernel
theorem dL_law_318 : decode cL_law 318 = .ok (.ifCond .eq 7, 3) := by decide +kernel
theorem dL_law_321 : decode cL_law 321 = .ok (.iconst 1, 1) := by decide +kernel
theorem dL_law_322 : decode cL_law 322 = .ok (.goto 4, 3) := by decide +kernel
theorem dL_law_325 : decode cL_law 325 = .ok (.iconst 0, 1) := by decide +kernel
theorem dL_law_326 : decode cL_law 326 = .ok (.istore_n 3, 1) := by decide +kernel
theorem dL_law_327 : decode cL_law 327 = .ok (.iinc 4 1, 3) := by decide +kernel
theorem dL_law_330 : decode cL_law 330 = .ok (.goto (-309), 3) := by decide +kernel
theorem dL_law_333 : decode cL_law 333 = .ok (.iload_n 3, 1) := by decide +kernel
theorem dL_law_334 : decode cL_law 334 = .ok (.ifCond .eq 18, 3) := by decide +kernel
theorem dL_law_337 : decode cL_law 337 = .ok (.aload_n 1, 1) := by decide +kernel
theorem dL_law_338 : decode cL_law 338 = .ok (.invokevirtual 104, 3) := by decide +kernel
theorem dL_law_341 : decode cL_law 341 = .ok (.aload_n 2, 1) := by decide +kernel
theorem dL_law_342 : decode cL_law 342 = .ok (.invokevirtual 104, 3) := by decide +kernel
theorem dL_law_345 : decode cL_law 345 = .ok (.if_icmp .ne 7, 3) := by decide +kernel
theorem dL_law_348 : decode cL_law 348 = .ok (.iconst 1, 1) := by decide +kernel
theorem dL_law_349 : decode cL_law 349 = .ok (.goto 4, 3) := by decide +kernel
theorem dL_law_352 : decode cL_law 352 = .ok (.iconst 0, 1) := by decide +kernel
theorem dL_law_353 : decode cL_law 353 = .ok (.ireturn, 1) := by decide +kernel
abbrev vwCl : List vw_C := [(RX0, TX0, 2), (RX1, TX1, 4), (RX2, TX2, 2), (RX3, TX3, 3), (RX4, TX4, 3), (RX5, TX5, 10), (RX6, TX6, 7)]
