section
/-! ===== BEGIN words of one list among another's, by their places ===== -/
theorem goodIn_r {big : List Cond} (ws : List Cond) (ps : List Nat) (hp : ws = ps.filterMap (fun i => big[i]?)) (h : ws.all goodWord = true) : GoodIn big ws := by
  intro w hw
  have h1 := List.all_eq_true.mp h w hw
  rw [hp] at hw
  obtain ⟨i, -, hi⟩ := List.mem_filterMap.mp hw
  have hm : w ∈ big := by first | exact List.mem_of_getElem? hi | exact List.getElem?_mem hi
  exact ⟨hm, good_of_word h1⟩
theorem goodIn_app {big a b : List Cond} (ha : GoodIn big a) (hb : GoodIn big b) : GoodIn big (a ++ b) := fun w h => (List.mem_append.mp h).elim (ha w) (hb w)
theorem goodIn_ca {big a b : List Cond} {c : Cond} (ha : GoodIn big (c :: a)) (hb : GoodIn big b) : GoodIn big (c :: (a ++ b)) := fun w h => (List.mem_cons.mp h).elim (fun e => ha w (List.mem_cons.mpr (Or.inl e))) (fun h => (List.mem_append.mp h).elim (fun h => ha w (List.mem_cons.mpr (Or.inr h))) (hb w))
theorem goodIn_sub {big ws : List Cond} (hm : ∀ w ∈ ws, w ∈ big) (h : ws.all goodWord = true) : GoodIn big ws := fun w hw => ⟨hm w hw, good_of_word (List.all_eq_true.mp h w hw)⟩
/-! ===== END ===== -/

/-! ===== BEGIN printed: names, fields, word lists, decode rows ===== -/
def RX0 : String := "PlayedLaws$Chances"
def TX0 : u_T := fun k => match k with
  | 0 => ("PlayedLaws$Chances", "trial", "LPlayedLaws$House;", true)
  | 1 => ("PlayedLaws$Chances", "night", "LPlayedLaws$Night;", true)
  | 2 => ("PlayedLaws$Chances", "above", "I", false)
  | _ => ("PlayedLaws$Chances", "below", "I", false)
def tyX0 : Nat → FieldType := fun k => match k with
  | 0 => .object "PlayedLaws$House"
  | 1 => .object "PlayedLaws$Night"
  | 2 => .int
  | _ => .int
abbrev wsX00 : List Cond := u_ws RX0 TX0 4
theorem nmX0 : ∀ a, a < 4 → ∀ b, b < 4 → a ≠ b → (TX0 a).2.1 ≠ (TX0 b).2.1 := by decide +kernel
theorem tyX0_ok : ∀ k, k < 4 → parseFieldDescriptor (TX0 k).2.2.1 = some (tyX0 k) := by decide +kernel
abbrev cX0_init : ByteArray := prog_2_method_1_code
def yX0_init : MethodName := ⟨RX0, "<init>", "()V"⟩
abbrev cX0_weigh : ByteArray := prog_2_method_2_code
def yX0_weigh : MethodName := ⟨RX0, "weigh", "(LPlayedLaws$House;I)V"⟩
abbrev cX0_weightOf : ByteArray := prog_2_method_3_code
def yX0_weightOf : MethodName := ⟨RX0, "weightOf", "(LPlayedLaws$House;II)I"⟩
abbrev cX0_canCough : ByteArray := prog_2_method_4_code
def yX0_canCough : MethodName := ⟨RX0, "canCough", "(LPlayedLaws$House;I)Z"⟩
abbrev cX0_commonDivisor : ByteArray := prog_2_method_5_code
def yX0_commonDivisor : MethodName := ⟨RX0, "commonDivisor", "(II)I"⟩
abbrev cX0_playSeason : ByteArray := prog_2_method_6_code
def yX0_playSeason : MethodName := ⟨RX0, "playSeason", "(LPlayedLaws$House;II)V"⟩
abbrev cX0_takeDraw : ByteArray := prog_2_method_7_code
def yX0_takeDraw : MethodName := ⟨RX0, "takeDraw", "(I)V"⟩
def RX1 : String := "PlayedLaws$House"
def TX1 : u_T := fun k => match k with
  | 0 => ("PlayedLaws$House", "sceneKinds", "LPlayedLaws$Row;", true)
  | 1 => ("PlayedLaws$House", "minutes", "LPlayedLaws$Row;", true)
  | 2 => ("PlayedLaws$House", "clauses", "LPlayedLaws$Row;", true)
  | 3 => ("PlayedLaws$House", "shown", "LPlayedLaws$Row;", true)
  | 4 => ("PlayedLaws$House", "bill", "LPlayedLaws$Row;", true)
  | 5 => ("PlayedLaws$House", "seatKinds", "LPlayedLaws$Row;", true)
  | 6 => ("PlayedLaws$House", "tastes", "LPlayedLaws$Row;", true)
  | 7 => ("PlayedLaws$House", "patiences", "LPlayedLaws$Row;", true)
  | 8 => ("PlayedLaws$House", "bound", "LPlayedLaws$Row;", true)
  | 9 => ("PlayedLaws$House", "line", "LPlayedLaws$Row;", true)
  | 10 => ("PlayedLaws$House", "scenes", "I", false)
  | 11 => ("PlayedLaws$House", "seats", "I", false)
  | 12 => ("PlayedLaws$House", "billed", "I", false)
  | 13 => ("PlayedLaws$House", "till", "I", false)
  | 14 => ("PlayedLaws$House", "nights", "I", false)
  | _ => ("PlayedLaws$House", "passed", "I", false)
def tyX1 : Nat → FieldType := fun k => match k with
  | 0 => .object "PlayedLaws$Row"
  | 1 => .object "PlayedLaws$Row"
  | 2 => .object "PlayedLaws$Row"
  | 3 => .object "PlayedLaws$Row"
  | 4 => .object "PlayedLaws$Row"
  | 5 => .object "PlayedLaws$Row"
  | 6 => .object "PlayedLaws$Row"
  | 7 => .object "PlayedLaws$Row"
  | 8 => .object "PlayedLaws$Row"
  | 9 => .object "PlayedLaws$Row"
  | 10 => .int
  | 11 => .int
  | 12 => .int
  | 13 => .int
  | 14 => .int
  | _ => .int
abbrev wsX10 : List Cond := u_ws RX1 TX1 16
theorem nmX1 : ∀ a, a < 16 → ∀ b, b < 16 → a ≠ b → (TX1 a).2.1 ≠ (TX1 b).2.1 := by decide +kernel
theorem tyX1_ok : ∀ k, k < 16 → parseFieldDescriptor (TX1 k).2.2.1 = some (tyX1 k) := by decide +kernel
abbrev cX1_init : ByteArray := prog_3_method_1_code
def yX1_init : MethodName := ⟨RX1, "<init>", "()V"⟩
abbrev cX1_empty : ByteArray := prog_3_method_2_code
def yX1_empty : MethodName := ⟨RX1, "empty", "()V"⟩
abbrev cX1_copy : ByteArray := prog_3_method_3_code
def yX1_copy : MethodName := ⟨RX1, "copy", "(LPlayedLaws$House;)V"⟩
abbrev cX1_tellScene : ByteArray := prog_3_method_4_code
def yX1_tellScene : MethodName := ⟨RX1, "tellScene", "(III)Z"⟩
abbrev cX1_tellSeat : ByteArray := prog_3_method_5_code
def yX1_tellSeat : MethodName := ⟨RX1, "tellSeat", "(III)Z"⟩
abbrev cX1_isScene : ByteArray := prog_3_method_6_code
def yX1_isScene : MethodName := ⟨RX1, "isScene", "(I)Z"⟩
abbrev cX1_isSeat : ByteArray := prog_3_method_7_code
def yX1_isSeat : MethodName := ⟨RX1, "isSeat", "(I)Z"⟩
abbrev cX1_placeOnBill : ByteArray := prog_3_method_8_code
def yX1_placeOnBill : MethodName := ⟨RX1, "placeOnBill", "(I)I"⟩
abbrev cX1_placeInLine : ByteArray := prog_3_method_9_code
def yX1_placeInLine : MethodName := ⟨RX1, "placeInLine", "(I)I"⟩
abbrev cX1_isBilled : ByteArray := prog_3_method_10_code
def yX1_isBilled : MethodName := ⟨RX1, "isBilled", "(I)Z"⟩
abbrev cX1_mount : ByteArray := prog_3_method_11_code
def yX1_mount : MethodName := ⟨RX1, "mount", "(II)V"⟩
abbrev cX1_strike : ByteArray := prog_3_method_12_code
def yX1_strike : MethodName := ⟨RX1, "strike", "(I)V"⟩
abbrev cX1_trade : ByteArray := prog_3_method_13_code
def yX1_trade : MethodName := ⟨RX1, "trade", "(II)V"⟩
abbrev cX1_canEngage : ByteArray := prog_3_method_14_code
def yX1_canEngage : MethodName := ⟨RX1, "canEngage", "(I)Z"⟩
abbrev cX1_engage : ByteArray := prog_3_method_15_code
def yX1_engage : MethodName := ⟨RX1, "engage", "(I)V"⟩
abbrev cX1_claqueurs : ByteArray := prog_3_method_16_code
def yX1_claqueurs : MethodName := ⟨RX1, "claqueurs", "()I"⟩
abbrev cX1_bindings : ByteArray := prog_3_method_17_code
def yX1_bindings : MethodName := ⟨RX1, "bindings", "()I"⟩
abbrev cX1_clauseBit : ByteArray := prog_3_method_18_code
def yX1_clauseBit : MethodName := ⟨RX1, "clauseBit", "(I)I"⟩
abbrev cX1_canOpen : ByteArray := prog_3_method_19_code
def yX1_canOpen : MethodName := ⟨RX1, "canOpen", "()Z"⟩
abbrev cX1_settle : ByteArray := prog_3_method_20_code
def yX1_settle : MethodName := ⟨RX1, "settle", "(LPlayedLaws$Night;)V"⟩
abbrev cX1_tire : ByteArray := prog_3_method_21_code
def yX1_tire : MethodName := ⟨RX1, "tire", "()V"⟩
abbrev cX1_bindAll : ByteArray := prog_3_method_22_code
def yX1_bindAll : MethodName := ⟨RX1, "bindAll", "(LPlayedLaws$Night;)V"⟩
abbrev cX1_bind : ByteArray := prog_3_method_23_code
def yX1_bind : MethodName := ⟨RX1, "bind", "(III)V"⟩
def RX2 : String := "PlayedLaws$Houses"
def TX2 : u_T := fun k => match k with
  | 0 => ("PlayedLaws$Houses", "houses", "[LPlayedLaws$House;", true)
  | 1 => ("PlayedLaws$Houses", "top", "I", false)
  | _ => ("PlayedLaws$Houses", "held", "I", false)
def tyX2 : Nat → FieldType := fun k => match k with
  | 0 => .array (.object "PlayedLaws$House")
  | 1 => .int
  | _ => .int
abbrev wsX20 : List Cond := u_ws RX2 TX2 3
theorem nmX2 : ∀ a, a < 3 → ∀ b, b < 3 → a ≠ b → (TX2 a).2.1 ≠ (TX2 b).2.1 := by decide +kernel
theorem tyX2_ok : ∀ k, k < 3 → parseFieldDescriptor (TX2 k).2.2.1 = some (tyX2 k) := by decide +kernel
abbrev cX2_init : ByteArray := prog_4_method_1_code
def yX2_init : MethodName := ⟨RX2, "<init>", "(I)V"⟩
abbrev cX2_push : ByteArray := prog_4_method_2_code
def yX2_push : MethodName := ⟨RX2, "push", "(LPlayedLaws$House;)V"⟩
abbrev cX2_pop : ByteArray := prog_4_method_3_code
def yX2_pop : MethodName := ⟨RX2, "pop", "(LPlayedLaws$House;)V"⟩
def RX3 : String := "PlayedLaws$Lineup"
def TX3 : u_T := fun k => match k with
  | 0 => ("PlayedLaws$Lineup", "trial", "LPlayedLaws$House;", true)
  | 1 => ("PlayedLaws$Lineup", "night", "LPlayedLaws$Night;", true)
  | 2 => ("PlayedLaws$Lineup", "row", "LPlayedLaws$Row;", true)
  | 3 => ("PlayedLaws$Lineup", "staying", "I", false)
  | _ => ("PlayedLaws$Lineup", "foundStamp", "I", false)
def tyX3 : Nat → FieldType := fun k => match k with
  | 0 => .object "PlayedLaws$House"
  | 1 => .object "PlayedLaws$Night"
  | 2 => .object "PlayedLaws$Row"
  | 3 => .int
  | _ => .int
abbrev wsX30 : List Cond := u_ws RX3 TX3 5
theorem nmX3 : ∀ a, a < 5 → ∀ b, b < 5 → a ≠ b → (TX3 a).2.1 ≠ (TX3 b).2.1 := by decide +kernel
theorem tyX3_ok : ∀ k, k < 5 → parseFieldDescriptor (TX3 k).2.2.1 = some (tyX3 k) := by decide +kernel
abbrev cX3_init : ByteArray := prog_5_method_1_code
def yX3_init : MethodName := ⟨RX3, "<init>", "()V"⟩
abbrev cX3_find : ByteArray := prog_5_method_2_code
def yX3_find : MethodName := ⟨RX3, "find", "(LPlayedLaws$House;I)V"⟩
abbrev cX3_patientAlone : ByteArray := prog_5_method_3_code
def yX3_patientAlone : MethodName := ⟨RX3, "patientAlone", "(LPlayedLaws$House;)I"⟩
abbrev cX3_tryLine : ByteArray := prog_5_method_4_code
def yX3_tryLine : MethodName := ⟨RX3, "tryLine", "()V"⟩
abbrev cX3_nextLine : ByteArray := prog_5_method_5_code
def yX3_nextLine : MethodName := ⟨RX3, "nextLine", "()Z"⟩
def RX4 : String := "PlayedLaws$Night"
def TX4 : u_T := fun k => match k with
  | 0 => ("PlayedLaws$Night", "boredom", "LPlayedLaws$Row;", true)
  | 1 => ("PlayedLaws$Night", "left", "LPlayedLaws$Row;", true)
  | 2 => ("PlayedLaws$Night", "asleep", "LPlayedLaws$Row;", true)
  | 3 => ("PlayedLaws$Night", "seen", "LPlayedLaws$Row;", true)
  | 4 => ("PlayedLaws$Night", "emptyPlaces", "LPlayedLaws$Row;", true)
  | _ => ("PlayedLaws$Night", "gone", "I", false)
def tyX4 : Nat → FieldType := fun k => match k with
  | 0 => .object "PlayedLaws$Row"
  | 1 => .object "PlayedLaws$Row"
  | 2 => .object "PlayedLaws$Row"
  | 3 => .object "PlayedLaws$Row"
  | 4 => .object "PlayedLaws$Row"
  | _ => .int
abbrev wsX40 : List Cond := u_ws RX4 TX4 6
theorem nmX4 : ∀ a, a < 6 → ∀ b, b < 6 → a ≠ b → (TX4 a).2.1 ≠ (TX4 b).2.1 := by decide +kernel
theorem tyX4_ok : ∀ k, k < 6 → parseFieldDescriptor (TX4 k).2.2.1 = some (tyX4 k) := by decide +kernel
abbrev cX4_init : ByteArray := prog_6_method_1_code
def yX4_init : MethodName := ⟨RX4, "<init>", "()V"⟩
abbrev cX4_begin : ByteArray := prog_6_method_2_code
def yX4_begin : MethodName := ⟨RX4, "begin", "()V"⟩
abbrev cX4_copy : ByteArray := prog_6_method_3_code
def yX4_copy : MethodName := ⟨RX4, "copy", "(LPlayedLaws$Night;)V"⟩
abbrev cX4_unfold : ByteArray := prog_6_method_4_code
def yX4_unfold : MethodName := ⟨RX4, "unfold", "(LPlayedLaws$House;I)V"⟩
abbrev cX4_stage : ByteArray := prog_6_method_5_code
def yX4_stage : MethodName := ⟨RX4, "stage", "(LPlayedLaws$House;II)V"⟩
abbrev cX4_carries : ByteArray := prog_6_method_6_code
def yX4_carries : MethodName := ⟨RX4, "carries", "(LPlayedLaws$House;)Z"⟩
abbrev cX4_watch : ByteArray := prog_6_method_7_code
def yX4_watch : MethodName := ⟨RX4, "watch", "(LPlayedLaws$House;I)V"⟩
abbrev cX4_leave : ByteArray := prog_6_method_8_code
def yX4_leave : MethodName := ⟨RX4, "leave", "(LPlayedLaws$House;II)V"⟩
abbrev cX4_bore : ByteArray := prog_6_method_9_code
def yX4_bore : MethodName := ⟨RX4, "bore", "(LPlayedLaws$House;II)V"⟩
abbrev cX4_isDrivenOut : ByteArray := prog_6_method_10_code
def yX4_isDrivenOut : MethodName := ⟨RX4, "isDrivenOut", "(LPlayedLaws$House;I)Z"⟩
def RX5 : String := "PlayedLaws$Outlook"
def TX5 : u_T := fun k => match k with
  | 0 => ("PlayedLaws$Outlook", "trial", "LPlayedLaws$House;", true)
  | 1 => ("PlayedLaws$Outlook", "night", "LPlayedLaws$Night;", true)
  | 2 => ("PlayedLaws$Outlook", "addition", "I", false)
  | _ => ("PlayedLaws$Outlook", "binding", "I", false)
def tyX5 : Nat → FieldType := fun k => match k with
  | 0 => .object "PlayedLaws$House"
  | 1 => .object "PlayedLaws$Night"
  | 2 => .int
  | _ => .int
abbrev wsX50 : List Cond := u_ws RX5 TX5 4
theorem nmX5 : ∀ a, a < 4 → ∀ b, b < 4 → a ≠ b → (TX5 a).2.1 ≠ (TX5 b).2.1 := by decide +kernel
theorem tyX5_ok : ∀ k, k < 4 → parseFieldDescriptor (TX5 k).2.2.1 = some (tyX5 k) := by decide +kernel
abbrev cX5_init : ByteArray := prog_7_method_1_code
def yX5_init : MethodName := ⟨RX5, "<init>", "()V"⟩
abbrev cX5_fewestClaques : ByteArray := prog_7_method_2_code
def yX5_fewestClaques : MethodName := ⟨RX5, "fewestClaques", "(LPlayedLaws$House;)I"⟩
abbrev cX5_fatalCut : ByteArray := prog_7_method_3_code
def yX5_fatalCut : MethodName := ⟨RX5, "fatalCut", "(LPlayedLaws$House;)I"⟩
abbrev cX5_nightsAhead : ByteArray := prog_7_method_4_code
def yX5_nightsAhead : MethodName := ⟨RX5, "nightsAhead", "(LPlayedLaws$House;)I"⟩
abbrev cX5_findAddition : ByteArray := prog_7_method_5_code
def yX5_findAddition : MethodName := ⟨RX5, "findAddition", "(LPlayedLaws$House;)V"⟩
abbrev cX5_tryAddition : ByteArray := prog_7_method_6_code
def yX5_tryAddition : MethodName := ⟨RX5, "tryAddition", "(LPlayedLaws$House;II)V"⟩
abbrev cX5_fittingPatiences : ByteArray := prog_7_method_7_code
def yX5_fittingPatiences : MethodName := ⟨RX5, "fittingPatiences", "(LPlayedLaws$House;LPlayedLaws$Sights;I)I"⟩
abbrev cX5_fittingTastes : ByteArray := prog_7_method_8_code
def yX5_fittingTastes : MethodName := ⟨RX5, "fittingTastes", "(LPlayedLaws$House;LPlayedLaws$Sights;I)I"⟩
abbrev cX5_trialAgrees : ByteArray := prog_7_method_9_code
def yX5_trialAgrees : MethodName := ⟨RX5, "trialAgrees", "(LPlayedLaws$Sights;I)Z"⟩
abbrev cX5_trialPasses : ByteArray := prog_7_method_10_code
def yX5_trialPasses : MethodName := ⟨RX5, "trialPasses", "()Z"⟩
def RX6 : String := "PlayedLaws$Row"
def TX6 : u_T := fun k => match k with
  | _ => ("PlayedLaws$Row", "cells", "[I", true)
def tyX6 : Nat → FieldType := fun k => match k with
  | _ => .array .int
abbrev wsX60 : List Cond := u_ws RX6 TX6 1
theorem nmX6 : ∀ a, a < 1 → ∀ b, b < 1 → a ≠ b → (TX6 a).2.1 ≠ (TX6 b).2.1 := by decide +kernel
theorem tyX6_ok : ∀ k, k < 1 → parseFieldDescriptor (TX6 k).2.2.1 = some (tyX6 k) := by decide +kernel
abbrev cX6_init : ByteArray := prog_8_method_1_code
def yX6_init : MethodName := ⟨RX6, "<init>", "(I)V"⟩
abbrev cX6_at : ByteArray := prog_8_method_2_code
def yX6_at : MethodName := ⟨RX6, "at", "(I)I"⟩
abbrev cX6_put : ByteArray := prog_8_method_3_code
def yX6_put : MethodName := ⟨RX6, "put", "(II)V"⟩
abbrev cX6_placeOf : ByteArray := prog_8_method_4_code
def yX6_placeOf : MethodName := ⟨RX6, "placeOf", "(II)I"⟩
abbrev cX6_trade : ByteArray := prog_8_method_5_code
def yX6_trade : MethodName := ⟨RX6, "trade", "(II)V"⟩
abbrev cX6_insert : ByteArray := prog_8_method_6_code
def yX6_insert : MethodName := ⟨RX6, "insert", "(III)V"⟩
abbrev cX6_remove : ByteArray := prog_8_method_7_code
def yX6_remove : MethodName := ⟨RX6, "remove", "(II)V"⟩
abbrev cX6_clear : ByteArray := prog_8_method_8_code
def yX6_clear : MethodName := ⟨RX6, "clear", "()V"⟩
abbrev cX6_numberThrough : ByteArray := prog_8_method_9_code
def yX6_numberThrough : MethodName := ⟨RX6, "numberThrough", "()V"⟩
abbrev cX6_copy : ByteArray := prog_8_method_10_code
def yX6_copy : MethodName := ⟨RX6, "copy", "(LPlayedLaws$Row;)V"⟩
def RX7 : String := "PlayedLaws$Shortest"
def TX7 : u_T := fun k => match k with
  | 0 => ("PlayedLaws$Shortest", "trial", "LPlayedLaws$House;", true)
  | 1 => ("PlayedLaws$Shortest", "evenings", "[LPlayedLaws$Night;", true)
  | 2 => ("PlayedLaws$Shortest", "row", "LPlayedLaws$Row;", true)
  | 3 => ("PlayedLaws$Shortest", "length", "I", false)
  | 4 => ("PlayedLaws$Shortest", "minutes", "I", false)
  | 5 => ("PlayedLaws$Shortest", "foundSet", "I", false)
  | _ => ("PlayedLaws$Shortest", "foundStamp", "I", false)
def tyX7 : Nat → FieldType := fun k => match k with
  | 0 => .object "PlayedLaws$House"
  | 1 => .array (.object "PlayedLaws$Night")
  | 2 => .object "PlayedLaws$Row"
  | 3 => .int
  | 4 => .int
  | 5 => .int
  | _ => .int
abbrev wsX70 : List Cond := u_ws RX7 TX7 7
theorem nmX7 : ∀ a, a < 7 → ∀ b, b < 7 → a ≠ b → (TX7 a).2.1 ≠ (TX7 b).2.1 := by decide +kernel
theorem tyX7_ok : ∀ k, k < 7 → parseFieldDescriptor (TX7 k).2.2.1 = some (tyX7 k) := by decide +kernel
abbrev cX7_init : ByteArray := prog_9_method_1_code
def yX7_init : MethodName := ⟨RX7, "<init>", "()V"⟩
abbrev cX7_find : ByteArray := prog_9_method_2_code
def yX7_find : MethodName := ⟨RX7, "find", "(LPlayedLaws$House;II)V"⟩
abbrev cX7_extend : ByteArray := prog_9_method_3_code
def yX7_extend : MethodName := ⟨RX7, "extend", "(LPlayedLaws$Shortest;IIII)V"⟩
abbrev cX7_endures : ByteArray := prog_9_method_4_code
def yX7_endures : MethodName := ⟨RX7, "endures", "(II)Z"⟩
abbrev cX7_evening : ByteArray := prog_9_method_5_code
def yX7_evening : MethodName := ⟨RX7, "evening", "(I)LPlayedLaws$Night;"⟩
abbrev cX7_bindable : ByteArray := prog_9_method_6_code
def yX7_bindable : MethodName := ⟨RX7, "bindable", "(I)I"⟩
abbrev cX7_note : ByteArray := prog_9_method_7_code
def yX7_note : MethodName := ⟨RX7, "note", "(II)V"⟩
def RX8 : String := "PlayedLaws$Sights"
def TX8 : u_T := fun k => match k with
  | 0 => ("PlayedLaws$Sights", "seats", "LPlayedLaws$Row;", true)
  | 1 => ("PlayedLaws$Sights", "behind", "LPlayedLaws$Row;", true)
  | _ => ("PlayedLaws$Sights", "noted", "I", false)
def tyX8 : Nat → FieldType := fun k => match k with
  | 0 => .object "PlayedLaws$Row"
  | 1 => .object "PlayedLaws$Row"
  | _ => .int
abbrev wsX80 : List Cond := u_ws RX8 TX8 3
theorem nmX8 : ∀ a, a < 3 → ∀ b, b < 3 → a ≠ b → (TX8 a).2.1 ≠ (TX8 b).2.1 := by decide +kernel
theorem tyX8_ok : ∀ k, k < 3 → parseFieldDescriptor (TX8 k).2.2.1 = some (tyX8 k) := by decide +kernel
abbrev cX8_init : ByteArray := prog_10_method_1_code
def yX8_init : MethodName := ⟨RX8, "<init>", "()V"⟩
abbrev cX8_note : ByteArray := prog_10_method_2_code
def yX8_note : MethodName := ⟨RX8, "note", "(II)Z"⟩
abbrev cX8_agree : ByteArray := prog_10_method_3_code
def yX8_agree : MethodName := ⟨RX8, "agree", "(II)Z"⟩
def RX9 : String := "PlayedLaws$Text"
def TX9 : u_T := fun k => match k with
  | 0 => ("PlayedLaws$Text", "letters", "LPlayedLaws$Row;", true)
  | 1 => ("PlayedLaws$Text", "told", "LPlayedLaws$House;", true)
  | 2 => ("PlayedLaws$Text", "length", "I", false)
  | _ => ("PlayedLaws$Text", "spot", "I", false)
def tyX9 : Nat → FieldType := fun k => match k with
  | 0 => .object "PlayedLaws$Row"
  | 1 => .object "PlayedLaws$House"
  | 2 => .int
  | _ => .int
abbrev wsX90 : List Cond := u_ws RX9 TX9 4
theorem nmX9 : ∀ a, a < 4 → ∀ b, b < 4 → a ≠ b → (TX9 a).2.1 ≠ (TX9 b).2.1 := by decide +kernel
theorem tyX9_ok : ∀ k, k < 4 → parseFieldDescriptor (TX9 k).2.2.1 = some (tyX9 k) := by decide +kernel
abbrev cX9_init : ByteArray := prog_11_method_1_code
def yX9_init : MethodName := ⟨RX9, "<init>", "()V"⟩
abbrev cX9_append : ByteArray := prog_11_method_2_code
def yX9_append : MethodName := ⟨RX9, "append", "(I)Z"⟩
abbrev cX9_read : ByteArray := prog_11_method_3_code
def yX9_read : MethodName := ⟨RX9, "read", "()I"⟩
abbrev cX9_readItem : ByteArray := prog_11_method_4_code
def yX9_readItem : MethodName := ⟨RX9, "readItem", "()Z"⟩
abbrev cX9_readScene : ByteArray := prog_11_method_5_code
def yX9_readScene : MethodName := ⟨RX9, "readScene", "()Z"⟩
abbrev cX9_readSeat : ByteArray := prog_11_method_6_code
def yX9_readSeat : MethodName := ⟨RX9, "readSeat", "()Z"⟩
abbrev cX9_readBill : ByteArray := prog_11_method_7_code
def yX9_readBill : MethodName := ⟨RX9, "readBill", "()Z"⟩
abbrev cX9_readTill : ByteArray := prog_11_method_8_code
def yX9_readTill : MethodName := ⟨RX9, "readTill", "()Z"⟩
abbrev cX9_number : ByteArray := prog_11_method_9_code
def yX9_number : MethodName := ⟨RX9, "number", "(III)I"⟩
abbrev cX9_next : ByteArray := prog_11_method_10_code
def yX9_next : MethodName := ⟨RX9, "next", "()I"⟩
abbrev cX9_figure : ByteArray := prog_11_method_11_code
def yX9_figure : MethodName := ⟨RX9, "figure", "(I)I"⟩
def RX10 : String := "PlayedLaws"
def TX10 : u_T := fun k => match k with
  | 0 => ("PlayedLaws", "text", "LPlayedLaws$Text;", true)
  | 1 => ("PlayedLaws", "house", "LPlayedLaws$House;", true)
  | 2 => ("PlayedLaws", "past", "LPlayedLaws$Houses;", true)
  | 3 => ("PlayedLaws", "kept", "LPlayedLaws$Houses;", true)
  | 4 => ("PlayedLaws", "sights", "LPlayedLaws$Sights;", true)
  | 5 => ("PlayedLaws", "night", "LPlayedLaws$Night;", true)
  | 6 => ("PlayedLaws", "shortest", "LPlayedLaws$Shortest;", true)
  | 7 => ("PlayedLaws", "lineup", "LPlayedLaws$Lineup;", true)
  | 8 => ("PlayedLaws", "outlook", "LPlayedLaws$Outlook;", true)
  | 9 => ("PlayedLaws", "chances", "LPlayedLaws$Chances;", true)
  | _ => ("PlayedLaws", "stamp", "I", false)
def tyX10 : Nat → FieldType := fun k => match k with
  | 0 => .object "PlayedLaws$Text"
  | 1 => .object "PlayedLaws$House"
  | 2 => .object "PlayedLaws$Houses"
  | 3 => .object "PlayedLaws$Houses"
  | 4 => .object "PlayedLaws$Sights"
  | 5 => .object "PlayedLaws$Night"
  | 6 => .object "PlayedLaws$Shortest"
  | 7 => .object "PlayedLaws$Lineup"
  | 8 => .object "PlayedLaws$Outlook"
  | 9 => .object "PlayedLaws$Chances"
  | _ => .int
abbrev wsX100 : List Cond := u_ws RX10 TX10 11
theorem nmX10 : ∀ a, a < 11 → ∀ b, b < 11 → a ≠ b → (TX10 a).2.1 ≠ (TX10 b).2.1 := by decide +kernel
theorem tyX10_ok : ∀ k, k < 11 → parseFieldDescriptor (TX10 k).2.2.1 = some (tyX10 k) := by decide +kernel
abbrev cX10_init : ByteArray := prog_1_method_1_code
def yX10_init : MethodName := ⟨RX10, "<init>", "()V"⟩
abbrev cX10_write : ByteArray := prog_1_method_2_code
def yX10_write : MethodName := ⟨RX10, "write", "(I)I"⟩
abbrev cX10_wipe : ByteArray := prog_1_method_3_code
def yX10_wipe : MethodName := ⟨RX10, "wipe", "()I"⟩
abbrev cX10_fault : ByteArray := prog_1_method_4_code
def yX10_fault : MethodName := ⟨RX10, "fault", "()I"⟩
abbrev cX10_lay : ByteArray := prog_1_method_5_code
def yX10_lay : MethodName := ⟨RX10, "lay", "()I"⟩
abbrev cX10_scene : ByteArray := prog_1_method_6_code
def yX10_scene : MethodName := ⟨RX10, "scene", "(II)I"⟩
abbrev cX10_seat : ByteArray := prog_1_method_7_code
def yX10_seat : MethodName := ⟨RX10, "seat", "(II)I"⟩
abbrev cX10_tonight : ByteArray := prog_1_method_8_code
def yX10_tonight : MethodName := ⟨RX10, "tonight", "(II)I"⟩
abbrev cX10_passes : ByteArray := prog_1_method_9_code
def yX10_passes : MethodName := ⟨RX10, "passes", "(I)I"⟩
abbrev cX10_add : ByteArray := prog_1_method_10_code
def yX10_add : MethodName := ⟨RX10, "add", "(I)I"⟩
abbrev cX10_cut : ByteArray := prog_1_method_11_code
def yX10_cut : MethodName := ⟨RX10, "cut", "(I)I"⟩
abbrev cX10_play : ByteArray := prog_1_method_12_code
def yX10_play : MethodName := ⟨RX10, "play", "()I"⟩
abbrev cX10_swap : ByteArray := prog_1_method_13_code
def yX10_swap : MethodName := ⟨RX10, "swap", "(II)I"⟩
abbrev cX10_hire : ByteArray := prog_1_method_14_code
def yX10_hire : MethodName := ⟨RX10, "hire", "(I)I"⟩
abbrev cX10_undo : ByteArray := prog_1_method_15_code
def yX10_undo : MethodName := ⟨RX10, "undo", "()I"⟩
abbrev cX10_soonest : ByteArray := prog_1_method_16_code
def yX10_soonest : MethodName := ⟨RX10, "soonest", "(II)I"⟩
abbrev cX10_seating : ByteArray := prog_1_method_17_code
def yX10_seating : MethodName := ⟨RX10, "seating", "(I)I"⟩
abbrev cX10_claques : ByteArray := prog_1_method_18_code
def yX10_claques : MethodName := ⟨RX10, "claques", "(I)I"⟩
abbrev cX10_falls : ByteArray := prog_1_method_19_code
def yX10_falls : MethodName := ⟨RX10, "falls", "()I"⟩
abbrev cX10_run : ByteArray := prog_1_method_20_code
def yX10_run : MethodName := ⟨RX10, "run", "()I"⟩
abbrev cX10_most : ByteArray := prog_1_method_21_code
def yX10_most : MethodName := ⟨RX10, "most", "(I)I"⟩
abbrev cX10_see : ByteArray := prog_1_method_22_code
def yX10_see : MethodName := ⟨RX10, "see", "(II)I"⟩
abbrev cX10_forget : ByteArray := prog_1_method_23_code
def yX10_forget : MethodName := ⟨RX10, "forget", "()I"⟩
abbrev cX10_fits : ByteArray := prog_1_method_24_code
def yX10_fits : MethodName := ⟨RX10, "fits", "(II)I"⟩
abbrev cX10_coughs : ByteArray := prog_1_method_25_code
def yX10_coughs : MethodName := ⟨RX10, "coughs", "(II)I"⟩
abbrev cX10_season : ByteArray := prog_1_method_26_code
def yX10_season : MethodName := ⟨RX10, "season", "(III)I"⟩
abbrev cX10_keep : ByteArray := prog_1_method_27_code
def yX10_keep : MethodName := ⟨RX10, "keep", "()I"⟩
abbrev cX10_back : ByteArray := prog_1_method_28_code
def yX10_back : MethodName := ⟨RX10, "back", "()I"⟩
abbrev cX10_count : ByteArray := prog_1_method_29_code
def yX10_count : MethodName := ⟨RX10, "count", "(I)I"⟩
abbrev cX10_open : ByteArray := prog_1_method_30_code
def yX10_open : MethodName := ⟨RX10, "open", "(LPlayedLaws$House;)V"⟩
abbrev cX10_remember : ByteArray := prog_1_method_31_code
def yX10_remember : MethodName := ⟨RX10, "remember", "()V"⟩
abbrev cX10_within : ByteArray := prog_1_method_32_code
def yX10_within : MethodName := ⟨RX10, "within", "(III)Z"⟩
abbrev cX10_isIn : ByteArray := prog_1_method_33_code
def yX10_isIn : MethodName := ⟨RX10, "isIn", "(II)Z"⟩
def RX11 : String := "PlayedLawsModel"
def TX11 : u_T := fun k => match k with
  | 0 => ("PlayedLawsModel", "text", "[B", true)
  | 1 => ("PlayedLawsModel", "typed", "I", false)
  | 2 => ("PlayedLawsModel", "scenes", "[I", true)
  | 3 => ("PlayedLawsModel", "kind", "[I", true)
  | 4 => ("PlayedLawsModel", "minutes", "[I", true)
  | 5 => ("PlayedLawsModel", "clause", "[I", true)
  | 6 => ("PlayedLawsModel", "seats", "[I", true)
  | 7 => ("PlayedLawsModel", "draftSort", "[I", true)
  | 8 => ("PlayedLawsModel", "taste", "[I", true)
  | 9 => ("PlayedLawsModel", "patience", "[I", true)
  | 10 => ("PlayedLawsModel", "draftBill", "[I", true)
  | 11 => ("PlayedLawsModel", "draftLong", "I", false)
  | 12 => ("PlayedLawsModel", "draftTill", "I", false)
  | 13 => ("PlayedLawsModel", "at", "I", false)
  | 14 => ("PlayedLawsModel", "isWrong", "Z", false)
  | 15 => ("PlayedLawsModel", "now", "[I", true)
  | 16 => ("PlayedLawsModel", "before", "[I", true)
  | 17 => ("PlayedLawsModel", "many", "I", false)
  | 18 => ("PlayedLawsModel", "store", "[I", true)
  | 19 => ("PlayedLawsModel", "kept", "I", false)
  | 20 => ("PlayedLawsModel", "tried", "[I", true)
  | 21 => ("PlayedLawsModel", "leaves", "[I", true)
  | 22 => ("PlayedLawsModel", "boredom", "[I", true)
  | 23 => ("PlayedLawsModel", "isAsleep", "[Z", true)
  | 24 => ("PlayedLawsModel", "saw", "[I", true)
  | 25 => ("PlayedLawsModel", "coughing", "I", false)
  | 26 => ("PlayedLawsModel", "best", "[I", true)
  | 27 => ("PlayedLawsModel", "sightOf", "[I", true)
  | 28 => ("PlayedLawsModel", "sightGo", "[I", true)
  | _ => ("PlayedLawsModel", "sights", "I", false)
def tyX11 : Nat → FieldType := fun k => match k with
  | 0 => .array .byte
  | 1 => .int
  | 2 => .array .int
  | 3 => .array .int
  | 4 => .array .int
  | 5 => .array .int
  | 6 => .array .int
  | 7 => .array .int
  | 8 => .array .int
  | 9 => .array .int
  | 10 => .array .int
  | 11 => .int
  | 12 => .int
  | 13 => .int
  | 14 => .boolean
  | 15 => .array .int
  | 16 => .array .int
  | 17 => .int
  | 18 => .array .int
  | 19 => .int
  | 20 => .array .int
  | 21 => .array .int
  | 22 => .array .int
  | 23 => .array .boolean
  | 24 => .array .int
  | 25 => .int
  | 26 => .array .int
  | 27 => .array .int
  | 28 => .array .int
  | _ => .int
abbrev wsX110 : List Cond := u_ws RX11 TX11 30
theorem nmX11 : ∀ a, a < 30 → ∀ b, b < 30 → a ≠ b → (TX11 a).2.1 ≠ (TX11 b).2.1 := by decide +kernel
theorem tyX11_ok : ∀ k, k < 30 → parseFieldDescriptor (TX11 k).2.2.1 = some (tyX11 k) := by decide +kernel
abbrev cX11_init : ByteArray := prog_13_method_1_code
def yX11_init : MethodName := ⟨RX11, "<init>", "()V"⟩
abbrev cX11_in : ByteArray := prog_13_method_3_code
def yX11_in : MethodName := ⟨RX11, "in", "(III)Z"⟩
abbrev cX11_write : ByteArray := prog_13_method_4_code
def yX11_write : MethodName := ⟨RX11, "write", "(I)I"⟩
abbrev cX11_wipe : ByteArray := prog_13_method_5_code
def yX11_wipe : MethodName := ⟨RX11, "wipe", "()I"⟩
abbrev cX11_here : ByteArray := prog_13_method_6_code
def yX11_here : MethodName := ⟨RX11, "here", "()I"⟩
abbrev cX11_isFigure : ByteArray := prog_13_method_7_code
def yX11_isFigure : MethodName := ⟨RX11, "isFigure", "()Z"⟩
abbrev cX11_due : ByteArray := prog_13_method_8_code
def yX11_due : MethodName := ⟨RX11, "due", "(I)V"⟩
abbrev cX11_number : ByteArray := prog_13_method_9_code
def yX11_number : MethodName := ⟨RX11, "number", "(II)I"⟩
abbrev cX11_readScene : ByteArray := prog_13_method_10_code
def yX11_readScene : MethodName := ⟨RX11, "readScene", "()V"⟩
abbrev cX11_readSeat : ByteArray := prog_13_method_11_code
def yX11_readSeat : MethodName := ⟨RX11, "readSeat", "()V"⟩
abbrev cX11_readBill : ByteArray := prog_13_method_12_code
def yX11_readBill : MethodName := ⟨RX11, "readBill", "()V"⟩
abbrev cX11_readItem : ByteArray := prog_13_method_13_code
def yX11_readItem : MethodName := ⟨RX11, "readItem", "()V"⟩
abbrev cX11_read : ByteArray := prog_13_method_14_code
def yX11_read : MethodName := ⟨RX11, "read", "()I"⟩
abbrev cX11_fault : ByteArray := prog_13_method_15_code
def yX11_fault : MethodName := ⟨RX11, "fault", "()I"⟩
abbrev cX11_tellScene : ByteArray := prog_13_method_16_code
def yX11_tellScene : MethodName := ⟨RX11, "tellScene", "(III)V"⟩
abbrev cX11_chair : ByteArray := prog_13_method_17_code
def yX11_chair : MethodName := ⟨RX11, "chair", "(III)V"⟩
abbrev cX11_onBill : ByteArray := prog_13_method_18_code
def yX11_onBill : MethodName := ⟨RX11, "onBill", "(I)V"⟩
abbrev cX11_first : ByteArray := prog_13_method_19_code
def yX11_first : MethodName := ⟨RX11, "first", "()V"⟩
abbrev cX11_takeDraft : ByteArray := prog_13_method_20_code
def yX11_takeDraft : MethodName := ⟨RX11, "takeDraft", "()V"⟩
abbrev cX11_lay : ByteArray := prog_13_method_21_code
def yX11_lay : MethodName := ⟨RX11, "lay", "()I"⟩
abbrev cX11_take : ByteArray := prog_13_method_22_code
def yX11_take : MethodName := ⟨RX11, "take", "()V"⟩
abbrev cX11_isScene : ByteArray := prog_13_method_23_code
def yX11_isScene : MethodName := ⟨RX11, "isScene", "(I)Z"⟩
abbrev cX11_isSeat : ByteArray := prog_13_method_24_code
def yX11_isSeat : MethodName := ⟨RX11, "isSeat", "(I)Z"⟩
abbrev cX11_placeOn : ByteArray := prog_13_method_25_code
def yX11_placeOn : MethodName := ⟨RX11, "placeOn", "([II)I"⟩
abbrev cX11_placeIn : ByteArray := prog_13_method_26_code
def yX11_placeIn : MethodName := ⟨RX11, "placeIn", "([II)I"⟩
abbrev cX11_bitsOf : ByteArray := prog_13_method_27_code
def yX11_bitsOf : MethodName := ⟨RX11, "bitsOf", "(I)I"⟩
abbrev cX11_claquesOf : ByteArray := prog_13_method_28_code
def yX11_claquesOf : MethodName := ⟨RX11, "claquesOf", "([I)I"⟩
abbrev cX11_boundOf : ByteArray := prog_13_method_29_code
def yX11_boundOf : MethodName := ⟨RX11, "boundOf", "([I)I"⟩
abbrev cX11_isGone : ByteArray := prog_13_method_30_code
def yX11_isGone : MethodName := ⟨RX11, "isGone", "([II)Z"⟩
abbrev cX11_bore : ByteArray := prog_13_method_31_code
def yX11_bore : MethodName := ⟨RX11, "bore", "([III)V"⟩
abbrev cX11_canLeave : ByteArray := prog_13_method_32_code
def yX11_canLeave : MethodName := ⟨RX11, "canLeave", "([II)Z"⟩
abbrev cX11_settle : ByteArray := prog_13_method_33_code
def yX11_settle : MethodName := ⟨RX11, "settle", "([III)V"⟩
abbrev cX11_go : ByteArray := prog_13_method_34_code
def yX11_go : MethodName := ⟨RX11, "go", "([I)I"⟩
abbrev cX11_doesPass : ByteArray := prog_13_method_35_code
def yX11_doesPass : MethodName := ⟨RX11, "doesPass", "([I)Z"⟩
abbrev cX11_bind : ByteArray := prog_13_method_36_code
def yX11_bind : MethodName := ⟨RX11, "bind", "([I)V"⟩
abbrev cX11_canPlay : ByteArray := prog_13_method_37_code
def yX11_canPlay : MethodName := ⟨RX11, "canPlay", "([I)Z"⟩
abbrev cX11_playOn : ByteArray := prog_13_method_38_code
def yX11_playOn : MethodName := ⟨RX11, "playOn", "([I)Z"⟩
abbrev cX11_scene : ByteArray := prog_13_method_39_code
def yX11_scene : MethodName := ⟨RX11, "scene", "(II)I"⟩
abbrev cX11_seat : ByteArray := prog_13_method_40_code
def yX11_seat : MethodName := ⟨RX11, "seat", "(II)I"⟩
abbrev cX11_tonight : ByteArray := prog_13_method_41_code
def yX11_tonight : MethodName := ⟨RX11, "tonight", "(II)I"⟩
abbrev cX11_passes : ByteArray := prog_13_method_42_code
def yX11_passes : MethodName := ⟨RX11, "passes", "(I)I"⟩
abbrev cX11_know : ByteArray := prog_13_method_43_code
def yX11_know : MethodName := ⟨RX11, "know", "()V"⟩
abbrev cX11_putOn : ByteArray := prog_13_method_44_code
def yX11_putOn : MethodName := ⟨RX11, "putOn", "([III)V"⟩
abbrev cX11_takeOff : ByteArray := prog_13_method_45_code
def yX11_takeOff : MethodName := ⟨RX11, "takeOff", "([II)V"⟩
abbrev cX11_change : ByteArray := prog_13_method_46_code
def yX11_change : MethodName := ⟨RX11, "change", "([III)V"⟩
abbrev cX11_canHire : ByteArray := prog_13_method_47_code
def yX11_canHire : MethodName := ⟨RX11, "canHire", "([II)Z"⟩
abbrev cX11_hireFor : ByteArray := prog_13_method_48_code
def yX11_hireFor : MethodName := ⟨RX11, "hireFor", "([II)V"⟩
abbrev cX11_add : ByteArray := prog_13_method_49_code
def yX11_add : MethodName := ⟨RX11, "add", "(I)I"⟩
abbrev cX11_cut : ByteArray := prog_13_method_50_code
def yX11_cut : MethodName := ⟨RX11, "cut", "(I)I"⟩
abbrev cX11_play : ByteArray := prog_13_method_51_code
def yX11_play : MethodName := ⟨RX11, "play", "()I"⟩
abbrev cX11_swap : ByteArray := prog_13_method_52_code
def yX11_swap : MethodName := ⟨RX11, "swap", "(II)I"⟩
abbrev cX11_hire : ByteArray := prog_13_method_53_code
def yX11_hire : MethodName := ⟨RX11, "hire", "(I)I"⟩
abbrev cX11_undo : ByteArray := prog_13_method_54_code
def yX11_undo : MethodName := ⟨RX11, "undo", "()I"⟩
abbrev cX11_clausesTried : ByteArray := prog_13_method_55_code
def yX11_clausesTried : MethodName := ⟨RX11, "clausesTried", "()I"⟩
abbrev cX11_minutesTried : ByteArray := prog_13_method_56_code
def yX11_minutesTried : MethodName := ⟨RX11, "minutesTried", "()I"⟩
abbrev cX11_nextBill : ByteArray := prog_13_method_57_code
def yX11_nextBill : MethodName := ⟨RX11, "nextBill", "()Z"⟩
abbrev cX11_soonest : ByteArray := prog_13_method_58_code
def yX11_soonest : MethodName := ⟨RX11, "soonest", "(II)I"⟩
abbrev cX11_nextRow : ByteArray := prog_13_method_59_code
def yX11_nextRow : MethodName := ⟨RX11, "nextRow", "()Z"⟩
abbrev cX11_seating : ByteArray := prog_13_method_60_code
def yX11_seating : MethodName := ⟨RX11, "seating", "(I)I"⟩
abbrev cX11_claques : ByteArray := prog_13_method_61_code
def yX11_claques : MethodName := ⟨RX11, "claques", "(I)I"⟩
abbrev cX11_falls : ByteArray := prog_13_method_62_code
def yX11_falls : MethodName := ⟨RX11, "falls", "()I"⟩
abbrev cX11_run : ByteArray := prog_13_method_63_code
def yX11_run : MethodName := ⟨RX11, "run", "()I"⟩
abbrev cX11_most : ByteArray := prog_13_method_64_code
def yX11_most : MethodName := ⟨RX11, "most", "(I)I"⟩
abbrev cX11_see : ByteArray := prog_13_method_65_code
def yX11_see : MethodName := ⟨RX11, "see", "(II)I"⟩
abbrev cX11_forget : ByteArray := prog_13_method_66_code
def yX11_forget : MethodName := ⟨RX11, "forget", "()I"⟩
abbrev cX11_isSo : ByteArray := prog_13_method_67_code
def yX11_isSo : MethodName := ⟨RX11, "isSo", "(I)Z"⟩
abbrev cX11_fits : ByteArray := prog_13_method_68_code
def yX11_fits : MethodName := ⟨RX11, "fits", "(II)I"⟩
abbrev cX11_coughs : ByteArray := prog_13_method_69_code
def yX11_coughs : MethodName := ⟨RX11, "coughs", "(II)I"⟩
abbrev cX11_turn : ByteArray := prog_13_method_70_code
def yX11_turn : MethodName := ⟨RX11, "turn", "(I)I"⟩
abbrev cX11_season : ByteArray := prog_13_method_71_code
def yX11_season : MethodName := ⟨RX11, "season", "(III)I"⟩
abbrev cX11_keep : ByteArray := prog_13_method_72_code
def yX11_keep : MethodName := ⟨RX11, "keep", "()I"⟩
abbrev cX11_back : ByteArray := prog_13_method_73_code
def yX11_back : MethodName := ⟨RX11, "back", "()I"⟩
abbrev cX11_count : ByteArray := prog_13_method_74_code
def yX11_count : MethodName := ⟨RX11, "count", "(I)I"⟩
def RJx145de : String := "java/io/Serializable"
def TJx145de : u_T := fun k => match k with
  | _ => ("", "", "", false)
def tyJx145de : Nat → FieldType := fun k => match k with
  | _ => .int
abbrev wsJx145de0 : List Cond := u_ws RJx145de TJx145de 0
theorem nmJx145de : ∀ a, a < 0 → ∀ b, b < 0 → a ≠ b → (TJx145de a).2.1 ≠ (TJx145de b).2.1 := by decide +kernel
theorem tyJx145de_ok : ∀ k, k < 0 → parseFieldDescriptor (TJx145de k).2.2.1 = some (tyJx145de k) := by decide +kernel
def RJx9f9b0 : String := "java/lang/CharSequence"
def TJx9f9b0 : u_T := fun k => match k with
  | _ => ("", "", "", false)
def tyJx9f9b0 : Nat → FieldType := fun k => match k with
  | _ => .int
abbrev wsJx9f9b00 : List Cond := u_ws RJx9f9b0 TJx9f9b0 0
theorem nmJx9f9b0 : ∀ a, a < 0 → ∀ b, b < 0 → a ≠ b → (TJx9f9b0 a).2.1 ≠ (TJx9f9b0 b).2.1 := by decide +kernel
theorem tyJx9f9b0_ok : ∀ k, k < 0 → parseFieldDescriptor (TJx9f9b0 k).2.2.1 = some (tyJx9f9b0 k) := by decide +kernel
def RJxb160c : String := "java/lang/Comparable"
def TJxb160c : u_T := fun k => match k with
  | _ => ("", "", "", false)
def tyJxb160c : Nat → FieldType := fun k => match k with
  | _ => .int
abbrev wsJxb160c0 : List Cond := u_ws RJxb160c TJxb160c 0
theorem nmJxb160c : ∀ a, a < 0 → ∀ b, b < 0 → a ≠ b → (TJxb160c a).2.1 ≠ (TJxb160c b).2.1 := by decide +kernel
theorem tyJxb160c_ok : ∀ k, k < 0 → parseFieldDescriptor (TJxb160c k).2.2.1 = some (tyJxb160c k) := by decide +kernel
def RJ6 : String := "java/lang/Integer"
def TJ6 : u_T := fun k => match k with
  | _ => ("", "", "", false)
def tyJ6 : Nat → FieldType := fun k => match k with
  | _ => .int
abbrev wsJ60 : List Cond := u_ws RJ6 TJ6 0
theorem nmJ6 : ∀ a, a < 0 → ∀ b, b < 0 → a ≠ b → (TJ6 a).2.1 ≠ (TJ6 b).2.1 := by decide +kernel
theorem tyJ6_ok : ∀ k, k < 0 → parseFieldDescriptor (TJ6 k).2.2.1 = some (tyJ6 k) := by decide +kernel
abbrev cJ6_bitCount_0f7a4 : ByteArray := prog_14_method_49_code
def yJ6_bitCount_0f7a4 : MethodName := ⟨RJ6, "bitCount", "(I)I"⟩
def RJ9 : String := "java/lang/Math"
def TJ9 : u_T := fun k => match k with
  | _ => ("", "", "", false)
def tyJ9 : Nat → FieldType := fun k => match k with
  | _ => .int
abbrev wsJ90 : List Cond := u_ws RJ9 TJ9 0
theorem nmJ9 : ∀ a, a < 0 → ∀ b, b < 0 → a ≠ b → (TJ9 a).2.1 ≠ (TJ9 b).2.1 := by decide +kernel
theorem tyJ9_ok : ∀ k, k < 0 → parseFieldDescriptor (TJ9 k).2.2.1 = some (tyJ9 k) := by decide +kernel
abbrev cJ9_max_7cf53 : ByteArray := prog_15_method_65_code
def yJ9_max_7cf53 : MethodName := ⟨RJ9, "max", "(II)I"⟩
abbrev cJ9_min_7cf53 : ByteArray := prog_15_method_69_code
def yJ9_min_7cf53 : MethodName := ⟨RJ9, "min", "(II)I"⟩
def RJ0 : String := "java/lang/String"
def TJ0 : u_T := fun k => match k with
  | _ => ("", "", "", false)
def tyJ0 : Nat → FieldType := fun k => match k with
  | _ => .int
abbrev wsJ00 : List Cond := u_ws RJ0 TJ0 0
theorem nmJ0 : ∀ a, a < 0 → ∀ b, b < 0 → a ≠ b → (TJ0 a).2.1 ≠ (TJ0 b).2.1 := by decide +kernel
theorem tyJ0_ok : ∀ k, k < 0 → parseFieldDescriptor (TJ0 k).2.2.1 = some (tyJ0 k) := by decide +kernel
abbrev cJ0_length_8abf5 : ByteArray := prog_16_method_54_code
def yJ0_length_8abf5 : MethodName := ⟨RJ0, "length", "()I"⟩
abbrev cJ0_charAt_5068e : ByteArray := prog_16_method_56_code
def yJ0_charAt_5068e : MethodName := ⟨RJ0, "charAt", "(I)C"⟩
abbrev cJ0_coder_7d493 : ByteArray := prog_16_method_152_code
def yJ0_coder_7d493 : MethodName := ⟨RJ0, "coder", "()B"⟩
abbrev cJ0_isLatin1_aae02 : ByteArray := prog_16_method_154_code
def yJ0_isLatin1_aae02 : MethodName := ⟨RJ0, "isLatin1", "()Z"⟩
abbrev cJ0_checkIndex_df160 : ByteArray := prog_16_method_155_code
def yJ0_checkIndex_df160 : MethodName := ⟨RJ0, "checkIndex", "(II)V"⟩
def RJ1 : String := "java/lang/StringLatin1"
def TJ1 : u_T := fun k => match k with
  | _ => ("", "", "", false)
def tyJ1 : Nat → FieldType := fun k => match k with
  | _ => .int
abbrev wsJ10 : List Cond := u_ws RJ1 TJ1 0
theorem nmJ1 : ∀ a, a < 0 → ∀ b, b < 0 → a ≠ b → (TJ1 a).2.1 ≠ (TJ1 b).2.1 := by decide +kernel
theorem tyJ1_ok : ∀ k, k < 0 → parseFieldDescriptor (TJ1 k).2.2.1 = some (tyJ1 k) := by decide +kernel
abbrev cJ1_charAt_3b067 : ByteArray := prog_17_method_2_code
def yJ1_charAt_3b067 : MethodName := ⟨RJ1, "charAt", "([BI)C"⟩
def RJ2 : String := "java/lang/StringUTF16"
def TJ2 : u_T := fun k => match k with
  | _ => ("", "", "", false)
def tyJ2 : Nat → FieldType := fun k => match k with
  | _ => .int
abbrev wsJ20 : List Cond := u_ws RJ2 TJ2 0
theorem nmJ2 : ∀ a, a < 0 → ∀ b, b < 0 → a ≠ b → (TJ2 a).2.1 ≠ (TJ2 b).2.1 := by decide +kernel
theorem tyJ2_ok : ∀ k, k < 0 → parseFieldDescriptor (TJ2 k).2.2.1 = some (tyJ2 k) := by decide +kernel
abbrev cJ2_getChar_3b067 : ByteArray := prog_18_method_5_code
def yJ2_getChar_3b067 : MethodName := ⟨RJ2, "getChar", "([BI)C"⟩
abbrev cJ2_length_9d52b : ByteArray := prog_18_method_6_code
def yJ2_length_9d52b : MethodName := ⟨RJ2, "length", "([B)I"⟩
abbrev cJ2_charAt_3b067 : ByteArray := prog_18_method_83_code
def yJ2_charAt_3b067 : MethodName := ⟨RJ2, "charAt", "([BI)C"⟩
abbrev cJ2_checkIndex_2214a : ByteArray := prog_18_method_91_code
def yJ2_checkIndex_2214a : MethodName := ⟨RJ2, "checkIndex", "(I[B)V"⟩
def RJ10 : String := "java/lang/System"
def TJ10 : u_T := fun k => match k with
  | _ => ("", "", "", false)
def tyJ10 : Nat → FieldType := fun k => match k with
  | _ => .int
abbrev wsJ100 : List Cond := u_ws RJ10 TJ10 0
theorem nmJ10 : ∀ a, a < 0 → ∀ b, b < 0 → a ≠ b → (TJ10 a).2.1 ≠ (TJ10 b).2.1 := by decide +kernel
theorem tyJ10_ok : ∀ k, k < 0 → parseFieldDescriptor (TJ10 k).2.2.1 = some (tyJ10 k) := by decide +kernel
def RJxfd54e : String := "java/lang/constant/Constable"
def TJxfd54e : u_T := fun k => match k with
  | _ => ("", "", "", false)
def tyJxfd54e : Nat → FieldType := fun k => match k with
  | _ => .int
abbrev wsJxfd54e0 : List Cond := u_ws RJxfd54e TJxfd54e 0
theorem nmJxfd54e : ∀ a, a < 0 → ∀ b, b < 0 → a ≠ b → (TJxfd54e a).2.1 ≠ (TJxfd54e b).2.1 := by decide +kernel
theorem tyJxfd54e_ok : ∀ k, k < 0 → parseFieldDescriptor (TJxfd54e k).2.2.1 = some (tyJxfd54e k) := by decide +kernel
def RJx3cf43 : String := "java/lang/constant/ConstantDesc"
def TJx3cf43 : u_T := fun k => match k with
  | _ => ("", "", "", false)
def tyJx3cf43 : Nat → FieldType := fun k => match k with
  | _ => .int
abbrev wsJx3cf430 : List Cond := u_ws RJx3cf43 TJx3cf43 0
theorem nmJx3cf43 : ∀ a, a < 0 → ∀ b, b < 0 → a ≠ b → (TJx3cf43 a).2.1 ≠ (TJx3cf43 b).2.1 := by decide +kernel
theorem tyJx3cf43_ok : ∀ k, k < 0 → parseFieldDescriptor (TJx3cf43 k).2.2.1 = some (tyJx3cf43 k) := by decide +kernel
def RJ7 : String := "java/util/Arrays"
def TJ7 : u_T := fun k => match k with
  | _ => ("", "", "", false)
def tyJ7 : Nat → FieldType := fun k => match k with
  | _ => .int
abbrev wsJ70 : List Cond := u_ws RJ7 TJ7 0
theorem nmJ7 : ∀ a, a < 0 → ∀ b, b < 0 → a ≠ b → (TJ7 a).2.1 ≠ (TJ7 b).2.1 := by decide +kernel
theorem tyJ7_ok : ∀ k, k < 0 → parseFieldDescriptor (TJ7 k).2.2.1 = some (tyJ7 k) := by decide +kernel
abbrev cJ7_fill_53178 : ByteArray := prog_20_method_103_code
def yJ7_fill_53178 : MethodName := ⟨RJ7, "fill", "([II)V"⟩
def RJ3 : String := "jdk/internal/util/Preconditions"
def TJ3 : u_T := fun k => match k with
  | _ => ("", "", "", false)
def tyJ3 : Nat → FieldType := fun k => match k with
  | _ => .int
abbrev wsJ30 : List Cond := u_ws RJ3 TJ3 0
theorem nmJ3 : ∀ a, a < 0 → ∀ b, b < 0 → a ≠ b → (TJ3 a).2.1 ≠ (TJ3 b).2.1 := by decide +kernel
theorem tyJ3_ok : ∀ k, k < 0 → parseFieldDescriptor (TJ3 k).2.2.1 = some (tyJ3 k) := by decide +kernel
abbrev cJ3_checkIndex_8e157 : ByteArray := prog_21_method_11_code
def yJ3_checkIndex_8e157 : MethodName := ⟨RJ3, "checkIndex", "(IILjava/util/function/BiFunction;)I"⟩
def RL : String := "PlayedLawsLaw"
abbrev cL_law : ByteArray := code
def yL_law : MethodName := ⟨RL, "law", "([I)Z"⟩
end
section
/-! tables, by program (wip/whole/gen.py): methods by number, their instructions, pools, fields, the order of making -/
abbrev jA : Type := Nat × Nat
abbrev jR : Type := Nat × jA
abbrev jCode : Type := List (List (Nat × (Instr × Nat)))
def jObjCode : ByteArray := ⟨#[0xb1]⟩
/-- Chances.init ()V -/
def jc0 : jCode := [[(0, (.aload_n 0, 1)), (1, (.invokespecial 3, 3)), (4, (.aload_n 0, 1)), (5, (.new 9, 3)), (8, (.dup, 1)), (9, (.invokespecial 11, 3)), (12, (.putfield 12, 3)), (15, (.aload_n 0, 1))], [(16, (.new 18, 3)), (19, (.dup, 1)), (20, (.invokespecial 20, 3)), (23, (.putfield 21, 3)), (26, (.return_, 1))]]
/-- Chances.weigh (LPlayedLaws$House;I)V -/
def jc1 : jCode := [[(0, (.aload_n 0, 1)), (1, (.iconst 0, 1)), (2, (.putfield 25, 3)), (5, (.aload_n 0, 1)), (6, (.iconst 1, 1)), (7, (.putfield 29, 3)), (10, (.iconst 0, 1)), (11, (.istore_n 3, 1)), (12, (.iload_n 3, 1)), (13, (.aload_n 1, 1)), (14, (.getfield 32, 3))], [(17, (.if_icmp .ge 28, 3)), (20, (.aload_n 1, 1)), (21, (.iload_n 3, 1)), (22, (.invokestatic 35, 3)), (25, (.ifCond .eq 14, 3)), (28, (.aload_n 0, 1)), (29, (.dup, 1)), (30, (.getfield 29, 3))], [(33, (.bipush 10, 2)), (35, (.imul, 1)), (36, (.putfield 29, 3)), (39, (.iinc 3 1, 3)), (42, (.goto (-30), 3)), (45, (.iconst 0, 1)), (46, (.istore_n 3, 1)), (47, (.iload_n 3, 1))], [(48, (.iconst 1, 1)), (49, (.aload_n 1, 1)), (50, (.getfield 32, 3)), (53, (.ishl, 1)), (54, (.if_icmp .ge 56, 3)), (57, (.aload_n 1, 1)), (58, (.iload_n 3, 1)), (59, (.iload_n 2, 1)), (60, (.invokestatic 39, 3)), (63, (.istore 4, 2))], [(65, (.iload 4, 2)), (67, (.ifCond .ne 6, 3)), (70, (.goto 34, 3)), (73, (.aload_n 0, 1)), (74, (.getfield 21, 3)), (77, (.aload_n 1, 1)), (78, (.iload_n 3, 1)), (79, (.invokevirtual 43, 3))], [(82, (.aload_n 0, 1)), (83, (.getfield 21, 3)), (86, (.aload_n 1, 1)), (87, (.invokevirtual 47, 3)), (90, (.ifCond .eq 14, 3)), (93, (.aload_n 0, 1)), (94, (.dup, 1)), (95, (.getfield 25, 3))], [(98, (.iload 4, 2)), (100, (.iadd, 1)), (101, (.putfield 25, 3)), (104, (.iinc 3 1, 3)), (107, (.goto (-60), 3)), (110, (.aload_n 0, 1)), (111, (.getfield 25, 3))], [(114, (.aload_n 0, 1)), (115, (.getfield 29, 3)), (118, (.invokestatic 51, 3)), (121, (.istore_n 3, 1)), (122, (.iload_n 3, 1)), (123, (.iconst 1, 1)), (124, (.if_icmp .ge 4, 3)), (127, (.return_, 1))], [(128, (.aload_n 0, 1)), (129, (.dup, 1)), (130, (.getfield 25, 3)), (133, (.iload_n 3, 1)), (134, (.idiv, 1)), (135, (.putfield 25, 3)), (138, (.aload_n 0, 1)), (139, (.dup, 1)), (140, (.getfield 29, 3)), (143, (.iload_n 3, 1))], [(144, (.idiv, 1)), (145, (.putfield 29, 3)), (148, (.return_, 1))]]
/-- Chances.weightOf (LPlayedLaws$House;II)I -/
def jc2 : jCode := [[(0, (.iconst 1, 1)), (1, (.istore_n 3, 1)), (2, (.iconst 0, 1)), (3, (.istore 4, 2)), (5, (.iload 4, 2)), (7, (.aload_n 0, 1)), (8, (.getfield 32, 3)), (11, (.if_icmp .ge 52, 3)), (14, (.iload_n 1, 1)), (15, (.iload 4, 2))], [(17, (.invokestatic 55, 3)), (20, (.istore 5, 2)), (22, (.aload_n 0, 1)), (23, (.iload 4, 2)), (25, (.invokestatic 35, 3)), (28, (.ifCond .eq 22, 3)), (31, (.iload_n 3, 1))], [(32, (.iload 5, 2)), (34, (.ifCond .eq 7, 3)), (37, (.iload_n 2, 1)), (38, (.goto 7, 3)), (41, (.bipush 10, 2)), (43, (.iload_n 2, 1)), (44, (.isub, 1)), (45, (.imul, 1)), (46, (.istore_n 3, 1)), (47, (.goto 10, 3))], [(50, (.iload 5, 2)), (52, (.ifCond .eq 5, 3)), (55, (.iconst 0, 1)), (56, (.ireturn, 1)), (57, (.iinc 4 1, 3)), (60, (.goto (-55), 3)), (63, (.iload_n 3, 1))], [(64, (.ireturn, 1))]]
/-- Chances.canCough (LPlayedLaws$House;I)Z -/
def jc3 : jCode := [[(0, (.aload_n 0, 1)), (1, (.getfield 59, 3)), (4, (.iload_n 1, 1)), (5, (.invokevirtual 63, 3)), (8, (.istore_n 2, 1)), (9, (.iload_n 2, 1)), (10, (.iconst 1, 1)), (11, (.if_icmp .eq 12, 3)), (14, (.iload_n 2, 1)), (15, (.iconst 3, 1))], [(16, (.if_icmp .eq 7, 3)), (19, (.iconst 1, 1)), (20, (.goto 4, 3)), (23, (.iconst 0, 1)), (24, (.ireturn, 1))]]
/-- Chances.commonDivisor (II)I -/
def jc4 : jCode := [[(0, (.iload_n 0, 1)), (1, (.istore_n 2, 1)), (2, (.iload_n 1, 1)), (3, (.istore_n 3, 1)), (4, (.iconst 0, 1)), (5, (.istore 4, 2)), (7, (.iload 4, 2)), (9, (.bipush 100, 2)), (11, (.if_icmp .ge 23, 3)), (14, (.iload_n 3, 1)), (15, (.ifCond .eq 19, 3))], [(18, (.iload_n 2, 1)), (19, (.iload_n 3, 1)), (20, (.irem, 1)), (21, (.istore 5, 2)), (23, (.iload_n 3, 1)), (24, (.istore_n 2, 1)), (25, (.iload 5, 2)), (27, (.istore_n 3, 1)), (28, (.iinc 4 1, 3)), (31, (.goto (-24), 3))], [(34, (.iload_n 2, 1)), (35, (.ireturn, 1))]]
/-- Chances.playSeason (LPlayedLaws$House;II)V -/
def jc5 : jCode := [[(0, (.aload_n 0, 1)), (1, (.getfield 12, 3)), (4, (.aload_n 1, 1)), (5, (.invokevirtual 69, 3)), (8, (.iconst 0, 1)), (9, (.istore 4, 2)), (11, (.iload 4, 2)), (13, (.iload_n 3, 1)), (14, (.if_icmp .ge 41, 3))], [(17, (.ldc2_w 73, 3)), (20, (.iload_n 2, 1)), (21, (.i2l, 1)), (22, (.lmul, 1)), (23, (.ldc2_w 75, 3)), (26, (.iload 4, 2)), (28, (.i2l, 1)), (29, (.lmul, 1)), (30, (.ladd, 1)), (31, (.lconst 1, 1))], [(32, (.ladd, 1)), (33, (.lstore 5, 2)), (35, (.aload_n 0, 1)), (36, (.lload 5, 2)), (38, (.lload 5, 2)), (40, (.lmul, 1)), (41, (.ldc2_w 77, 3)), (44, (.lrem, 1)), (45, (.l2i, 1)), (46, (.invokevirtual 79, 3))], [(49, (.iinc 4 1, 3)), (52, (.goto (-41), 3)), (55, (.return_, 1))]]
/-- Chances.takeDraw (I)V -/
def jc6 : jCode := [[(0, (.aload_n 0, 1)), (1, (.getfield 12, 3)), (4, (.getfield 83, 3)), (7, (.iconst 1, 1)), (8, (.if_icmp .lt 14, 3)), (11, (.aload_n 0, 1)), (12, (.getfield 12, 3)), (15, (.getfield 32, 3))], [(18, (.iconst 1, 1)), (19, (.if_icmp .ge 4, 3)), (22, (.return_, 1)), (23, (.iload_n 1, 1)), (24, (.bipush 8, 2)), (26, (.idiv, 1)), (27, (.aload_n 0, 1)), (28, (.getfield 12, 3)), (31, (.getfield 83, 3))], [(34, (.irem, 1)), (35, (.istore_n 2, 1)), (36, (.iload_n 1, 1)), (37, (.bipush 8, 2)), (39, (.idiv, 1)), (40, (.aload_n 0, 1)), (41, (.getfield 12, 3)), (44, (.getfield 32, 3)), (47, (.irem, 1))], [(48, (.istore_n 3, 1)), (49, (.iload_n 1, 1)), (50, (.bipush 64, 2)), (52, (.idiv, 1)), (53, (.aload_n 0, 1)), (54, (.getfield 12, 3)), (57, (.getfield 32, 3)), (60, (.irem, 1)), (61, (.istore 4, 2)), (63, (.iload_n 1, 1))], [(64, (.bipush 8, 2)), (66, (.irem, 1)), (67, (.tableswitch 125 0 4 #[33, 33, 62, 84, 103], 33))], [], [(100, (.aload_n 0, 1)), (101, (.getfield 12, 3)), (104, (.iload_n 2, 1)), (105, (.invokevirtual 86, 3)), (108, (.ifCond .ne 120, 3)), (111, (.aload_n 0, 1))], [(112, (.getfield 12, 3)), (115, (.iload_n 2, 1)), (116, (.aload_n 0, 1)), (117, (.getfield 12, 3)), (120, (.getfield 90, 3)), (123, (.invokevirtual 93, 3)), (126, (.goto 102, 3))], [(129, (.aload_n 0, 1)), (130, (.getfield 12, 3)), (133, (.iload_n 2, 1)), (134, (.invokevirtual 86, 3)), (137, (.ifCond .eq 91, 3)), (140, (.aload_n 0, 1)), (141, (.getfield 12, 3))], [(144, (.iload_n 2, 1)), (145, (.invokevirtual 97, 3)), (148, (.goto 80, 3)), (151, (.iload_n 3, 1)), (152, (.iload 4, 2)), (154, (.if_icmp .eq 74, 3)), (157, (.aload_n 0, 1)), (158, (.getfield 12, 3))], [(161, (.iload_n 3, 1)), (162, (.iload 4, 2)), (164, (.invokevirtual 100, 3)), (167, (.goto 61, 3)), (170, (.aload_n 0, 1)), (171, (.getfield 12, 3)), (174, (.iload_n 3, 1)), (175, (.invokevirtual 103, 3))], [(178, (.ifCond .eq 50, 3)), (181, (.aload_n 0, 1)), (182, (.getfield 12, 3)), (185, (.iload_n 3, 1)), (186, (.invokevirtual 106, 3)), (189, (.goto 39, 3))], [(192, (.aload_n 0, 1)), (193, (.getfield 12, 3)), (196, (.invokevirtual 109, 3)), (199, (.ifCond .ne 6, 3)), (202, (.goto 26, 3)), (205, (.aload_n 0, 1)), (206, (.getfield 21, 3))], [(209, (.aload_n 0, 1)), (210, (.getfield 12, 3)), (213, (.iconst 0, 1)), (214, (.invokevirtual 43, 3)), (217, (.aload_n 0, 1)), (218, (.getfield 12, 3)), (221, (.aload_n 0, 1)), (222, (.getfield 21, 3))], [(225, (.invokevirtual 113, 3)), (228, (.return_, 1))]]
/-- House.init ()V -/
def jc7 : jCode := [[(0, (.aload_n 0, 1)), (1, (.invokespecial 3, 3)), (4, (.aload_n 0, 1)), (5, (.new 9, 3)), (8, (.dup, 1)), (9, (.bipush 7, 2)), (11, (.invokespecial 11, 3)), (14, (.putfield 14, 3))], [(17, (.aload_n 0, 1)), (18, (.new 9, 3)), (21, (.dup, 1)), (22, (.bipush 7, 2)), (24, (.invokespecial 11, 3)), (27, (.putfield 20, 3)), (30, (.aload_n 0, 1)), (31, (.new 9, 3))], [(34, (.dup, 1)), (35, (.bipush 7, 2)), (37, (.invokespecial 11, 3)), (40, (.putfield 23, 3)), (43, (.aload_n 0, 1)), (44, (.new 9, 3)), (47, (.dup, 1))], [(48, (.bipush 7, 2)), (50, (.invokespecial 11, 3)), (53, (.putfield 26, 3)), (56, (.aload_n 0, 1)), (57, (.new 9, 3)), (60, (.dup, 1)), (61, (.bipush 7, 2)), (63, (.invokespecial 11, 3))], [(66, (.putfield 29, 3)), (69, (.aload_n 0, 1)), (70, (.new 9, 3)), (73, (.dup, 1)), (74, (.bipush 7, 2)), (76, (.invokespecial 11, 3)), (79, (.putfield 32, 3))], [(82, (.aload_n 0, 1)), (83, (.new 9, 3)), (86, (.dup, 1)), (87, (.bipush 7, 2)), (89, (.invokespecial 11, 3)), (92, (.putfield 35, 3)), (95, (.aload_n 0, 1))], [(96, (.new 9, 3)), (99, (.dup, 1)), (100, (.bipush 7, 2)), (102, (.invokespecial 11, 3)), (105, (.putfield 38, 3)), (108, (.aload_n 0, 1)), (109, (.new 9, 3))], [(112, (.dup, 1)), (113, (.bipush 7, 2)), (115, (.invokespecial 11, 3)), (118, (.putfield 41, 3)), (121, (.aload_n 0, 1)), (122, (.new 9, 3)), (125, (.dup, 1)), (126, (.bipush 7, 2))], [(128, (.invokespecial 11, 3)), (131, (.putfield 44, 3)), (134, (.return_, 1))]]
/-- House.empty ()V -/
def jc8 : jCode := [[(0, (.aload_n 0, 1)), (1, (.getfield 26, 3)), (4, (.invokevirtual 47, 3)), (7, (.aload_n 0, 1)), (8, (.getfield 41, 3)), (11, (.invokevirtual 47, 3)), (14, (.aload_n 0, 1)), (15, (.getfield 44, 3))], [(18, (.invokevirtual 50, 3)), (21, (.aload_n 0, 1)), (22, (.iconst 0, 1)), (23, (.putfield 53, 3)), (26, (.aload_n 0, 1)), (27, (.iconst 0, 1)), (28, (.putfield 57, 3)), (31, (.aload_n 0, 1))], [(32, (.iconst 0, 1)), (33, (.putfield 60, 3)), (36, (.aload_n 0, 1)), (37, (.bipush 20, 2)), (39, (.putfield 63, 3)), (42, (.aload_n 0, 1)), (43, (.iconst 0, 1)), (44, (.putfield 66, 3)), (47, (.aload_n 0, 1))], [(48, (.iconst 0, 1)), (49, (.putfield 69, 3)), (52, (.return_, 1))]]
/-- House.copy (LPlayedLaws$House;)V -/
def jc9 : jCode := [[(0, (.aload_n 0, 1)), (1, (.getfield 14, 3)), (4, (.aload_n 1, 1)), (5, (.getfield 14, 3)), (8, (.invokevirtual 72, 3)), (11, (.aload_n 0, 1)), (12, (.getfield 20, 3)), (15, (.aload_n 1, 1))], [(16, (.getfield 20, 3)), (19, (.invokevirtual 72, 3)), (22, (.aload_n 0, 1)), (23, (.getfield 23, 3)), (26, (.aload_n 1, 1)), (27, (.getfield 23, 3)), (30, (.invokevirtual 72, 3))], [(33, (.aload_n 0, 1)), (34, (.getfield 26, 3)), (37, (.aload_n 1, 1)), (38, (.getfield 26, 3)), (41, (.invokevirtual 72, 3)), (44, (.aload_n 0, 1)), (45, (.getfield 29, 3))], [(48, (.aload_n 1, 1)), (49, (.getfield 29, 3)), (52, (.invokevirtual 72, 3)), (55, (.aload_n 0, 1)), (56, (.getfield 32, 3)), (59, (.aload_n 1, 1)), (60, (.getfield 32, 3)), (63, (.invokevirtual 72, 3))], [(66, (.aload_n 0, 1)), (67, (.getfield 35, 3)), (70, (.aload_n 1, 1)), (71, (.getfield 35, 3)), (74, (.invokevirtual 72, 3)), (77, (.aload_n 0, 1)), (78, (.getfield 38, 3))], [(81, (.aload_n 1, 1)), (82, (.getfield 38, 3)), (85, (.invokevirtual 72, 3)), (88, (.aload_n 0, 1)), (89, (.getfield 41, 3)), (92, (.aload_n 1, 1)), (93, (.getfield 41, 3))], [(96, (.invokevirtual 72, 3)), (99, (.aload_n 0, 1)), (100, (.getfield 44, 3)), (103, (.aload_n 1, 1)), (104, (.getfield 44, 3)), (107, (.invokevirtual 72, 3)), (110, (.aload_n 0, 1)), (111, (.aload_n 1, 1))], [(112, (.getfield 53, 3)), (115, (.putfield 53, 3)), (118, (.aload_n 0, 1)), (119, (.aload_n 1, 1)), (120, (.getfield 57, 3)), (123, (.putfield 57, 3)), (126, (.aload_n 0, 1)), (127, (.aload_n 1, 1))], [(128, (.getfield 60, 3)), (131, (.putfield 60, 3)), (134, (.aload_n 0, 1)), (135, (.aload_n 1, 1)), (136, (.getfield 63, 3)), (139, (.putfield 63, 3)), (142, (.aload_n 0, 1)), (143, (.aload_n 1, 1))], [(144, (.getfield 66, 3)), (147, (.putfield 66, 3)), (150, (.aload_n 0, 1)), (151, (.aload_n 1, 1)), (152, (.getfield 69, 3)), (155, (.putfield 69, 3)), (158, (.return_, 1))]]
/-- House.tellScene (III)Z -/
def jc10 : jCode := [[(0, (.aload_n 0, 1)), (1, (.getfield 53, 3)), (4, (.bipush 7, 2)), (6, (.if_icmp .lt 5, 3)), (9, (.iconst 0, 1)), (10, (.ireturn, 1)), (11, (.aload_n 0, 1)), (12, (.getfield 14, 3)), (15, (.aload_n 0, 1))], [(16, (.getfield 53, 3)), (19, (.iload_n 1, 1)), (20, (.invokevirtual 76, 3)), (23, (.aload_n 0, 1)), (24, (.getfield 20, 3)), (27, (.aload_n 0, 1)), (28, (.getfield 53, 3)), (31, (.iload_n 2, 1))], [(32, (.invokevirtual 76, 3)), (35, (.aload_n 0, 1)), (36, (.getfield 23, 3)), (39, (.aload_n 0, 1)), (40, (.getfield 53, 3)), (43, (.iload_n 3, 1)), (44, (.invokevirtual 76, 3)), (47, (.aload_n 0, 1))], [(48, (.dup, 1)), (49, (.getfield 53, 3)), (52, (.iconst 1, 1)), (53, (.iadd, 1)), (54, (.putfield 53, 3)), (57, (.iconst 1, 1)), (58, (.ireturn, 1))]]
/-- House.tellSeat (III)Z -/
def jc11 : jCode := [[(0, (.aload_n 0, 1)), (1, (.getfield 57, 3)), (4, (.bipush 7, 2)), (6, (.if_icmp .lt 5, 3)), (9, (.iconst 0, 1)), (10, (.ireturn, 1)), (11, (.aload_n 0, 1)), (12, (.getfield 32, 3)), (15, (.aload_n 0, 1))], [(16, (.getfield 57, 3)), (19, (.iload_n 1, 1)), (20, (.invokevirtual 76, 3)), (23, (.aload_n 0, 1)), (24, (.getfield 35, 3)), (27, (.aload_n 0, 1)), (28, (.getfield 57, 3)), (31, (.iload_n 2, 1))], [(32, (.invokevirtual 76, 3)), (35, (.aload_n 0, 1)), (36, (.getfield 38, 3)), (39, (.aload_n 0, 1)), (40, (.getfield 57, 3)), (43, (.iload_n 3, 1)), (44, (.invokevirtual 76, 3)), (47, (.aload_n 0, 1))], [(48, (.dup, 1)), (49, (.getfield 57, 3)), (52, (.iconst 1, 1)), (53, (.iadd, 1)), (54, (.putfield 57, 3)), (57, (.iconst 1, 1)), (58, (.ireturn, 1))]]
/-- House.isScene (I)Z -/
def jc12 : jCode := [[(0, (.iload_n 1, 1)), (1, (.iconst 0, 1)), (2, (.aload_n 0, 1)), (3, (.getfield 53, 3)), (6, (.iconst 1, 1)), (7, (.isub, 1)), (8, (.invokestatic 80, 3)), (11, (.ireturn, 1))]]
/-- House.isSeat (I)Z -/
def jc13 : jCode := [[(0, (.iload_n 1, 1)), (1, (.iconst 0, 1)), (2, (.aload_n 0, 1)), (3, (.getfield 57, 3)), (6, (.iconst 1, 1)), (7, (.isub, 1)), (8, (.invokestatic 80, 3)), (11, (.ireturn, 1))]]
/-- House.placeOnBill (I)I -/
def jc14 : jCode := [[(0, (.aload_n 0, 1)), (1, (.getfield 29, 3)), (4, (.iload_n 1, 1)), (5, (.aload_n 0, 1)), (6, (.getfield 60, 3)), (9, (.invokevirtual 84, 3)), (12, (.ireturn, 1))]]
/-- House.placeInLine (I)I -/
def jc15 : jCode := [[(0, (.aload_n 0, 1)), (1, (.getfield 44, 3)), (4, (.iload_n 1, 1)), (5, (.aload_n 0, 1)), (6, (.getfield 57, 3)), (9, (.invokevirtual 84, 3)), (12, (.ireturn, 1))]]
/-- House.isBilled (I)Z -/
def jc16 : jCode := [[(0, (.aload_n 0, 1)), (1, (.getfield 29, 3)), (4, (.iload_n 1, 1)), (5, (.aload_n 0, 1)), (6, (.getfield 60, 3)), (9, (.invokevirtual 84, 3)), (12, (.bipush (-4), 2)), (14, (.if_icmp .eq 7, 3))], [(17, (.iconst 1, 1)), (18, (.goto 4, 3)), (21, (.iconst 0, 1)), (22, (.ireturn, 1))]]
/-- House.mount (II)V -/
def jc17 : jCode := [[(0, (.aload_n 0, 1)), (1, (.getfield 29, 3)), (4, (.iload_n 2, 1)), (5, (.iload_n 1, 1)), (6, (.aload_n 0, 1)), (7, (.getfield 60, 3)), (10, (.invokevirtual 88, 3)), (13, (.aload_n 0, 1)), (14, (.dup, 1)), (15, (.getfield 60, 3))], [(18, (.iconst 1, 1)), (19, (.iadd, 1)), (20, (.putfield 60, 3)), (23, (.return_, 1))]]
/-- House.strike (I)V -/
def jc18 : jCode := [[(0, (.aload_n 0, 1)), (1, (.getfield 29, 3)), (4, (.aload_n 0, 1)), (5, (.iload_n 1, 1)), (6, (.invokevirtual 92, 3)), (9, (.aload_n 0, 1)), (10, (.getfield 60, 3)), (13, (.invokevirtual 96, 3))], [(16, (.aload_n 0, 1)), (17, (.dup, 1)), (18, (.getfield 60, 3)), (21, (.iconst 1, 1)), (22, (.isub, 1)), (23, (.putfield 60, 3)), (26, (.return_, 1))]]
/-- House.trade (II)V -/
def jc19 : jCode := [[(0, (.aload_n 0, 1)), (1, (.getfield 44, 3)), (4, (.aload_n 0, 1)), (5, (.iload_n 1, 1)), (6, (.invokevirtual 99, 3)), (9, (.aload_n 0, 1)), (10, (.iload_n 2, 1)), (11, (.invokevirtual 99, 3)), (14, (.invokevirtual 102, 3))], [(17, (.return_, 1))]]
/-- House.canEngage (I)Z -/
def jc20 : jCode := [[(0, (.aload_n 0, 1)), (1, (.getfield 32, 3)), (4, (.iload_n 1, 1)), (5, (.invokevirtual 105, 3)), (8, (.iconst 3, 1)), (9, (.if_icmp .eq 15, 3)), (12, (.aload_n 0, 1)), (13, (.getfield 63, 3))], [(16, (.iconst 5, 1)), (17, (.if_icmp .lt 7, 3)), (20, (.iconst 1, 1)), (21, (.goto 4, 3)), (24, (.iconst 0, 1)), (25, (.ireturn, 1))]]
/-- House.engage (I)V -/
def jc21 : jCode := [[(0, (.aload_n 0, 1)), (1, (.getfield 32, 3)), (4, (.iload_n 1, 1)), (5, (.iconst 3, 1)), (6, (.invokevirtual 76, 3)), (9, (.aload_n 0, 1)), (10, (.dup, 1)), (11, (.getfield 63, 3)), (14, (.iconst 5, 1)), (15, (.isub, 1))], [(16, (.putfield 63, 3)), (19, (.return_, 1))]]
/-- House.claqueurs ()I -/
def jc22 : jCode := [[(0, (.iconst 0, 1)), (1, (.istore_n 1, 1)), (2, (.iconst 0, 1)), (3, (.istore_n 2, 1)), (4, (.iload_n 2, 1)), (5, (.aload_n 0, 1)), (6, (.getfield 57, 3)), (9, (.if_icmp .ge 24, 3)), (12, (.aload_n 0, 1)), (13, (.getfield 32, 3))], [(16, (.iload_n 2, 1)), (17, (.invokevirtual 105, 3)), (20, (.iconst 3, 1)), (21, (.if_icmp .ne 6, 3)), (24, (.iinc 1 1, 3)), (27, (.iinc 2 1, 3)), (30, (.goto (-26), 3))], [(33, (.iload_n 1, 1)), (34, (.ireturn, 1))]]
/-- House.bindings ()I -/
def jc23 : jCode := [[(0, (.iconst 0, 1)), (1, (.istore_n 1, 1)), (2, (.iconst 0, 1)), (3, (.istore_n 2, 1)), (4, (.iload_n 2, 1)), (5, (.aload_n 0, 1)), (6, (.getfield 57, 3)), (9, (.if_icmp .ge 23, 3)), (12, (.iload_n 1, 1)), (13, (.aload_n 0, 1)), (14, (.getfield 41, 3))], [(17, (.iload_n 2, 1)), (18, (.invokevirtual 105, 3)), (21, (.invokestatic 108, 3)), (24, (.iadd, 1)), (25, (.istore_n 1, 1)), (26, (.iinc 2 1, 3)), (29, (.goto (-25), 3))], [(32, (.iload_n 1, 1)), (33, (.ireturn, 1))]]
/-- House.clauseBit (I)I -/
def jc24 : jCode := [[(0, (.aload_n 0, 1)), (1, (.getfield 23, 3)), (4, (.iload_n 1, 1)), (5, (.invokevirtual 105, 3)), (8, (.istore_n 2, 1)), (9, (.iload_n 2, 1)), (10, (.bipush 8, 2)), (12, (.if_icmp .ne 7, 3)), (15, (.iconst 0, 1))], [(16, (.goto 6, 3)), (19, (.iconst 1, 1)), (20, (.iload_n 2, 1)), (21, (.ishl, 1)), (22, (.ireturn, 1))]]
/-- House.canOpen ()Z -/
def jc25 : jCode := [[(0, (.aload_n 0, 1)), (1, (.getfield 60, 3)), (4, (.ifCond .le 18, 3)), (7, (.aload_n 0, 1)), (8, (.getfield 63, 3)), (11, (.aload_n 0, 1)), (12, (.invokevirtual 113, 3)), (15, (.if_icmp .lt 7, 3))], [(18, (.iconst 1, 1)), (19, (.goto 4, 3)), (22, (.iconst 0, 1)), (23, (.ireturn, 1))]]
/-- House.settle (LPlayedLaws$Night;)V -/
def jc26 : jCode := [[(0, (.aload_n 1, 1)), (1, (.aload_n 0, 1)), (2, (.invokevirtual 117, 3)), (5, (.ifCond .eq 18, 3)), (8, (.aload_n 0, 1)), (9, (.aload_n 1, 1)), (10, (.invokevirtual 123, 3)), (13, (.aload_n 0, 1)), (14, (.dup, 1)), (15, (.getfield 69, 3))], [(18, (.iconst 1, 1)), (19, (.iadd, 1)), (20, (.putfield 69, 3)), (23, (.aload_n 0, 1)), (24, (.invokevirtual 113, 3)), (27, (.istore_n 2, 1)), (28, (.aload_n 0, 1)), (29, (.getfield 57, 3))], [(32, (.iload_n 2, 1)), (33, (.isub, 1)), (34, (.aload_n 1, 1)), (35, (.getfield 127, 3)), (38, (.isub, 1)), (39, (.istore_n 3, 1)), (40, (.aload_n 0, 1)), (41, (.sipush 999, 3)), (44, (.aload_n 0, 1)), (45, (.getfield 63, 3))], [(48, (.iload_n 2, 1)), (49, (.isub, 1)), (50, (.iload_n 3, 1)), (51, (.iadd, 1)), (52, (.invokestatic 130, 3)), (55, (.putfield 63, 3)), (58, (.aload_n 0, 1)), (59, (.dup, 1)), (60, (.getfield 66, 3)), (63, (.iconst 1, 1))], [(64, (.iadd, 1)), (65, (.putfield 66, 3)), (68, (.aload_n 0, 1)), (69, (.invokevirtual 135, 3)), (72, (.return_, 1))]]
/-- House.tire ()V -/
def jc27 : jCode := [[(0, (.iconst 0, 1)), (1, (.istore_n 1, 1)), (2, (.iload_n 1, 1)), (3, (.aload_n 0, 1)), (4, (.getfield 60, 3)), (7, (.if_icmp .ge 36, 3)), (10, (.aload_n 0, 1)), (11, (.getfield 29, 3)), (14, (.iload_n 1, 1)), (15, (.invokevirtual 105, 3))], [(18, (.istore_n 2, 1)), (19, (.aload_n 0, 1)), (20, (.getfield 26, 3)), (23, (.iload_n 2, 1)), (24, (.aload_n 0, 1)), (25, (.getfield 26, 3)), (28, (.iload_n 2, 1)), (29, (.invokevirtual 105, 3))], [(32, (.iconst 1, 1)), (33, (.iadd, 1)), (34, (.invokevirtual 76, 3)), (37, (.iinc 1 1, 3)), (40, (.goto (-38), 3)), (43, (.return_, 1))]]
/-- House.bindAll (LPlayedLaws$Night;)V -/
def jc28 : jCode := [[(0, (.iconst 0, 1)), (1, (.istore_n 2, 1)), (2, (.iload_n 2, 1)), (3, (.aload_n 0, 1)), (4, (.getfield 60, 3)), (7, (.if_icmp .ge 82, 3)), (10, (.aload_n 0, 1)), (11, (.getfield 14, 3)), (14, (.aload_n 0, 1)), (15, (.getfield 29, 3))], [(18, (.iload_n 2, 1)), (19, (.invokevirtual 105, 3)), (22, (.invokevirtual 105, 3)), (25, (.istore_n 3, 1)), (26, (.aload_n 0, 1)), (27, (.aload_n 0, 1)), (28, (.getfield 29, 3)), (31, (.iload_n 2, 1))], [(32, (.invokevirtual 105, 3)), (35, (.invokevirtual 138, 3)), (38, (.istore 4, 2)), (40, (.iconst 0, 1)), (41, (.istore 5, 2)), (43, (.iload 5, 2)), (45, (.aload_n 0, 1)), (46, (.getfield 57, 3))], [(49, (.if_icmp .ge 34, 3)), (52, (.aload_n 1, 1)), (53, (.getfield 141, 3)), (56, (.iload 5, 2)), (58, (.invokevirtual 105, 3)), (61, (.iload_n 2, 1)), (62, (.invokestatic 144, 3))], [(65, (.ifCond .eq 12, 3)), (68, (.aload_n 0, 1)), (69, (.iload 5, 2)), (71, (.iload_n 3, 1)), (72, (.iload 4, 2)), (74, (.invokevirtual 148, 3)), (77, (.iinc 5 1, 3))], [(80, (.goto (-37), 3)), (83, (.iinc 2 1, 3)), (86, (.goto (-84), 3)), (89, (.return_, 1))]]
/-- House.bind (III)V -/
def jc29 : jCode := [[(0, (.iload_n 2, 1)), (1, (.iconst 3, 1)), (2, (.if_icmp .ne 26, 3)), (5, (.aload_n 0, 1)), (6, (.getfield 41, 3)), (9, (.iload_n 1, 1)), (10, (.aload_n 0, 1)), (11, (.getfield 41, 3)), (14, (.iload_n 1, 1)), (15, (.invokevirtual 105, 3))], [(18, (.iload_n 3, 1)), (19, (.iconst (-1), 1)), (20, (.ixor, 1)), (21, (.iand, 1)), (22, (.invokevirtual 76, 3)), (25, (.goto 38, 3)), (28, (.iload_n 2, 1)), (29, (.iconst 1, 1)), (30, (.if_icmp .ne 15, 3))], [(33, (.aload_n 0, 1)), (34, (.getfield 35, 3)), (37, (.iload_n 1, 1)), (38, (.invokevirtual 105, 3)), (41, (.iconst 1, 1)), (42, (.if_icmp .ne 21, 3)), (45, (.aload_n 0, 1)), (46, (.getfield 41, 3))], [(49, (.iload_n 1, 1)), (50, (.aload_n 0, 1)), (51, (.getfield 41, 3)), (54, (.iload_n 1, 1)), (55, (.invokevirtual 105, 3)), (58, (.iload_n 3, 1)), (59, (.ior, 1)), (60, (.invokevirtual 76, 3)), (63, (.return_, 1))]]
/-- Houses.init (I)V -/
def jc30 : jCode := [[(0, (.aload_n 0, 1)), (1, (.invokespecial 1, 3)), (4, (.aload_n 0, 1)), (5, (.iload_n 1, 1)), (6, (.iconst 1, 1)), (7, (.if_icmp .ge 7, 3)), (10, (.iconst 1, 1)), (11, (.goto 4, 3)), (14, (.iload_n 1, 1)), (15, (.anewarray 7, 3))], [(18, (.putfield 9, 3)), (21, (.iconst 0, 1)), (22, (.istore_n 2, 1)), (23, (.iload_n 2, 1)), (24, (.aload_n 0, 1)), (25, (.getfield 9, 3)), (28, (.arraylength, 1)), (29, (.if_icmp .ge 22, 3))], [(32, (.aload_n 0, 1)), (33, (.getfield 9, 3)), (36, (.iload_n 2, 1)), (37, (.new 7, 3)), (40, (.dup, 1)), (41, (.invokespecial 15, 3)), (44, (.aastore, 1)), (45, (.iinc 2 1, 3))], [(48, (.goto (-25), 3)), (51, (.return_, 1))]]
/-- Houses.push (LPlayedLaws$House;)V -/
def jc31 : jCode := [[(0, (.aload_n 0, 1)), (1, (.getfield 16, 3)), (4, (.ifCond .lt 27, 3)), (7, (.aload_n 0, 1)), (8, (.getfield 16, 3)), (11, (.aload_n 0, 1)), (12, (.getfield 9, 3)), (15, (.arraylength, 1))], [(16, (.if_icmp .ge 15, 3)), (19, (.aload_n 0, 1)), (20, (.getfield 9, 3)), (23, (.aload_n 0, 1)), (24, (.getfield 16, 3)), (27, (.aaload, 1)), (28, (.goto 4, 3)), (31, (.aconst_null, 1))], [(32, (.astore_n 2, 1)), (33, (.aload_n 2, 1)), (34, (.ifnonnull 4, 3)), (37, (.return_, 1)), (38, (.aload_n 2, 1)), (39, (.aload_n 1, 1)), (40, (.invokevirtual 20, 3)), (43, (.aload_n 0, 1)), (44, (.aload_n 0, 1)), (45, (.getfield 16, 3))], [(48, (.iconst 1, 1)), (49, (.iadd, 1)), (50, (.aload_n 0, 1)), (51, (.getfield 9, 3)), (54, (.arraylength, 1)), (55, (.if_icmp .ge 12, 3)), (58, (.aload_n 0, 1)), (59, (.getfield 16, 3)), (62, (.iconst 1, 1)), (63, (.iadd, 1))], [(64, (.goto 4, 3)), (67, (.iconst 0, 1)), (68, (.putfield 16, 3)), (71, (.aload_n 0, 1)), (72, (.aload_n 0, 1)), (73, (.getfield 9, 3)), (76, (.arraylength, 1)), (77, (.aload_n 0, 1)), (78, (.getfield 24, 3))], [(81, (.iconst 1, 1)), (82, (.iadd, 1)), (83, (.invokestatic 27, 3)), (86, (.putfield 24, 3)), (89, (.return_, 1))]]
/-- Houses.pop (LPlayedLaws$House;)V -/
def jc32 : jCode := [[(0, (.aload_n 0, 1)), (1, (.getfield 16, 3)), (4, (.ifCond .le 12, 3)), (7, (.aload_n 0, 1)), (8, (.getfield 16, 3)), (11, (.iconst 1, 1)), (12, (.isub, 1)), (13, (.goto 10, 3))], [(16, (.aload_n 0, 1)), (17, (.getfield 9, 3)), (20, (.arraylength, 1)), (21, (.iconst 1, 1)), (22, (.isub, 1)), (23, (.istore_n 2, 1)), (24, (.iload_n 2, 1)), (25, (.ifCond .lt 21, 3)), (28, (.iload_n 2, 1)), (29, (.aload_n 0, 1)), (30, (.getfield 9, 3))], [(33, (.arraylength, 1)), (34, (.if_icmp .ge 12, 3)), (37, (.aload_n 0, 1)), (38, (.getfield 9, 3)), (41, (.iload_n 2, 1)), (42, (.aaload, 1)), (43, (.goto 4, 3)), (46, (.aconst_null, 1)), (47, (.astore_n 3, 1))], [(48, (.aload_n 3, 1)), (49, (.ifnull 10, 3)), (52, (.aload_n 0, 1)), (53, (.getfield 24, 3)), (56, (.ifCond .ne 4, 3)), (59, (.return_, 1)), (60, (.aload_n 1, 1)), (61, (.aload_n 3, 1)), (62, (.invokevirtual 20, 3))], [(65, (.aload_n 0, 1)), (66, (.iload_n 2, 1)), (67, (.putfield 16, 3)), (70, (.aload_n 0, 1)), (71, (.dup, 1)), (72, (.getfield 24, 3)), (75, (.iconst 1, 1)), (76, (.isub, 1)), (77, (.putfield 24, 3))], [(80, (.return_, 1))]]
/-- Lineup.init ()V -/
def jc33 : jCode := [[(0, (.aload_n 0, 1)), (1, (.invokespecial 3, 3)), (4, (.aload_n 0, 1)), (5, (.new 9, 3)), (8, (.dup, 1)), (9, (.invokespecial 11, 3)), (12, (.putfield 12, 3)), (15, (.aload_n 0, 1))], [(16, (.new 18, 3)), (19, (.dup, 1)), (20, (.invokespecial 20, 3)), (23, (.putfield 21, 3)), (26, (.aload_n 0, 1)), (27, (.new 25, 3)), (30, (.dup, 1)), (31, (.bipush 7, 2))], [(33, (.invokespecial 27, 3)), (36, (.putfield 30, 3)), (39, (.aload_n 0, 1)), (40, (.bipush (-4), 2)), (42, (.putfield 34, 3)), (45, (.return_, 1))]]
/-- Lineup.find (LPlayedLaws$House;I)V -/
def jc34 : jCode := [[(0, (.iload_n 2, 1)), (1, (.aload_n 0, 1)), (2, (.getfield 34, 3)), (5, (.if_icmp .ne 4, 3)), (8, (.return_, 1)), (9, (.aload_n 0, 1)), (10, (.iload_n 2, 1)), (11, (.putfield 34, 3)), (14, (.aload_n 0, 1)), (15, (.aload_n 1, 1))], [(16, (.invokevirtual 38, 3)), (19, (.istore_n 3, 1)), (20, (.aload_n 0, 1)), (21, (.getfield 12, 3)), (24, (.aload_n 1, 1)), (25, (.invokevirtual 42, 3)), (28, (.aload_n 0, 1)), (29, (.getfield 12, 3))], [(32, (.getfield 46, 3)), (35, (.invokevirtual 49, 3)), (38, (.aload_n 0, 1)), (39, (.bipush (-4), 2)), (41, (.putfield 52, 3)), (44, (.iconst 1, 1)), (45, (.istore 4, 2)), (47, (.iconst 0, 1))], [(48, (.istore 5, 2)), (50, (.iload 5, 2)), (52, (.sipush 5040, 3)), (55, (.if_icmp .ge 32, 3)), (58, (.iload 4, 2)), (60, (.ifCond .eq 27, 3)), (63, (.aload_n 0, 1))], [(64, (.getfield 52, 3)), (67, (.iload_n 3, 1)), (68, (.if_icmp .ge 19, 3)), (71, (.aload_n 0, 1)), (72, (.invokevirtual 55, 3)), (75, (.aload_n 0, 1)), (76, (.invokevirtual 58, 3)), (79, (.istore 4, 2))], [(81, (.iinc 5 1, 3)), (84, (.goto (-34), 3)), (87, (.return_, 1))]]
/-- Lineup.patientAlone (LPlayedLaws$House;)I -/
def jc35 : jCode := [[(0, (.iconst 0, 1)), (1, (.istore_n 2, 1)), (2, (.aload_n 0, 1)), (3, (.getfield 12, 3)), (6, (.aload_n 1, 1)), (7, (.invokevirtual 42, 3)), (10, (.aload_n 0, 1)), (11, (.getfield 12, 3)), (14, (.iconst 1, 1)), (15, (.putfield 62, 3))], [(18, (.iconst 0, 1)), (19, (.istore_n 3, 1)), (20, (.iload_n 3, 1)), (21, (.aload_n 1, 1)), (22, (.getfield 62, 3)), (25, (.if_icmp .ge 46, 3)), (28, (.aload_n 0, 1)), (29, (.getfield 12, 3))], [(32, (.getfield 46, 3)), (35, (.iconst 0, 1)), (36, (.iload_n 3, 1)), (37, (.invokevirtual 65, 3)), (40, (.aload_n 0, 1)), (41, (.getfield 21, 3)), (44, (.aload_n 0, 1)), (45, (.getfield 12, 3))], [(48, (.iconst 0, 1)), (49, (.invokevirtual 69, 3)), (52, (.aload_n 0, 1)), (53, (.getfield 21, 3)), (56, (.getfield 73, 3)), (59, (.ifCond .ne 6, 3)), (62, (.iinc 2 1, 3))], [(65, (.iinc 3 1, 3)), (68, (.goto (-48), 3)), (71, (.iload_n 2, 1)), (72, (.ireturn, 1))]]
/-- Lineup.tryLine ()V -/
def jc36 : jCode := [[(0, (.aload_n 0, 1)), (1, (.getfield 21, 3)), (4, (.aload_n 0, 1)), (5, (.getfield 12, 3)), (8, (.iconst 0, 1)), (9, (.invokevirtual 69, 3)), (12, (.aload_n 0, 1)), (13, (.getfield 12, 3))], [(16, (.getfield 62, 3)), (19, (.aload_n 0, 1)), (20, (.getfield 21, 3)), (23, (.getfield 73, 3)), (26, (.isub, 1)), (27, (.istore_n 1, 1)), (28, (.iload_n 1, 1)), (29, (.aload_n 0, 1)), (30, (.getfield 52, 3))], [(33, (.if_icmp .gt 4, 3)), (36, (.return_, 1)), (37, (.aload_n 0, 1)), (38, (.iload_n 1, 1)), (39, (.putfield 52, 3)), (42, (.aload_n 0, 1)), (43, (.getfield 30, 3)), (46, (.aload_n 0, 1)), (47, (.getfield 12, 3))], [(50, (.getfield 46, 3)), (53, (.invokevirtual 76, 3)), (56, (.return_, 1))]]
/-- Lineup.nextLine ()Z -/
def jc37 : jCode := [[(0, (.aload_n 0, 1)), (1, (.getfield 12, 3)), (4, (.getfield 46, 3)), (7, (.astore_n 1, 1)), (8, (.aload_n 0, 1)), (9, (.getfield 12, 3)), (12, (.getfield 62, 3)), (15, (.iconst 2, 1))], [(16, (.isub, 1)), (17, (.istore_n 2, 1)), (18, (.iload_n 2, 1)), (19, (.ifCond .lt 24, 3)), (22, (.aload_n 1, 1)), (23, (.iload_n 2, 1)), (24, (.invokevirtual 79, 3)), (27, (.aload_n 1, 1)), (28, (.iload_n 2, 1)), (29, (.iconst 1, 1)), (30, (.iadd, 1)), (31, (.invokevirtual 79, 3))], [(34, (.if_icmp .le 9, 3)), (37, (.iinc 2 (-1), 3)), (40, (.goto (-22), 3)), (43, (.iload_n 2, 1)), (44, (.ifCond .ge 5, 3)), (47, (.iconst 0, 1))], [(48, (.ireturn, 1)), (49, (.aload_n 0, 1)), (50, (.getfield 12, 3)), (53, (.getfield 62, 3)), (56, (.iconst 1, 1)), (57, (.isub, 1)), (58, (.istore_n 3, 1)), (59, (.iload_n 3, 1)), (60, (.iload_n 2, 1)), (61, (.if_icmp .le 22, 3))], [(64, (.aload_n 1, 1)), (65, (.iload_n 3, 1)), (66, (.invokevirtual 79, 3)), (69, (.aload_n 1, 1)), (70, (.iload_n 2, 1)), (71, (.invokevirtual 79, 3)), (74, (.if_icmp .ge 9, 3)), (77, (.iinc 3 (-1), 3))], [(80, (.goto (-21), 3)), (83, (.aload_n 1, 1)), (84, (.iload_n 2, 1)), (85, (.iload_n 3, 1)), (86, (.invokevirtual 83, 3)), (89, (.iload_n 2, 1)), (90, (.iconst 1, 1)), (91, (.iadd, 1)), (92, (.istore 4, 2)), (94, (.aload_n 0, 1)), (95, (.getfield 12, 3))], [(98, (.getfield 62, 3)), (101, (.iconst 1, 1)), (102, (.isub, 1)), (103, (.istore 5, 2)), (105, (.iload 4, 2)), (107, (.iload 5, 2)), (109, (.if_icmp .ge 20, 3))], [(112, (.aload_n 1, 1)), (113, (.iload 4, 2)), (115, (.iload 5, 2)), (117, (.invokevirtual 83, 3)), (120, (.iinc 4 1, 3)), (123, (.iinc 5 (-1), 3)), (126, (.goto (-21), 3))], [(129, (.iconst 1, 1)), (130, (.ireturn, 1))]]
/-- Night.init ()V -/
def jc38 : jCode := [[(0, (.aload_n 0, 1)), (1, (.invokespecial 3, 3)), (4, (.aload_n 0, 1)), (5, (.new 9, 3)), (8, (.dup, 1)), (9, (.bipush 7, 2)), (11, (.invokespecial 11, 3)), (14, (.putfield 14, 3))], [(17, (.aload_n 0, 1)), (18, (.new 9, 3)), (21, (.dup, 1)), (22, (.bipush 7, 2)), (24, (.invokespecial 11, 3)), (27, (.putfield 20, 3)), (30, (.aload_n 0, 1)), (31, (.new 9, 3))], [(34, (.dup, 1)), (35, (.bipush 7, 2)), (37, (.invokespecial 11, 3)), (40, (.putfield 23, 3)), (43, (.aload_n 0, 1)), (44, (.new 9, 3)), (47, (.dup, 1))], [(48, (.bipush 7, 2)), (50, (.invokespecial 11, 3)), (53, (.putfield 26, 3)), (56, (.aload_n 0, 1)), (57, (.new 9, 3)), (60, (.dup, 1)), (61, (.bipush 7, 2)), (63, (.invokespecial 11, 3))], [(66, (.putfield 29, 3)), (69, (.return_, 1))]]
/-- Night.begin ()V -/
def jc39 : jCode := [[(0, (.aload_n 0, 1)), (1, (.getfield 14, 3)), (4, (.invokevirtual 32, 3)), (7, (.aload_n 0, 1)), (8, (.getfield 20, 3)), (11, (.invokevirtual 32, 3)), (14, (.aload_n 0, 1)), (15, (.getfield 23, 3))], [(18, (.invokevirtual 32, 3)), (21, (.aload_n 0, 1)), (22, (.getfield 26, 3)), (25, (.invokevirtual 32, 3)), (28, (.aload_n 0, 1)), (29, (.getfield 29, 3))], [(32, (.invokevirtual 32, 3)), (35, (.aload_n 0, 1)), (36, (.iconst 0, 1)), (37, (.putfield 35, 3)), (40, (.return_, 1))]]
/-- Night.copy (LPlayedLaws$Night;)V -/
def jc40 : jCode := [[(0, (.aload_n 0, 1)), (1, (.getfield 14, 3)), (4, (.aload_n 1, 1)), (5, (.getfield 14, 3)), (8, (.invokevirtual 39, 3)), (11, (.aload_n 0, 1)), (12, (.getfield 20, 3)), (15, (.aload_n 1, 1))], [(16, (.getfield 20, 3)), (19, (.invokevirtual 39, 3)), (22, (.aload_n 0, 1)), (23, (.getfield 23, 3)), (26, (.aload_n 1, 1)), (27, (.getfield 23, 3)), (30, (.invokevirtual 39, 3))], [(33, (.aload_n 0, 1)), (34, (.getfield 26, 3)), (37, (.aload_n 1, 1)), (38, (.getfield 26, 3)), (41, (.invokevirtual 39, 3)), (44, (.aload_n 0, 1)), (45, (.getfield 29, 3))], [(48, (.aload_n 1, 1)), (49, (.getfield 29, 3)), (52, (.invokevirtual 39, 3)), (55, (.aload_n 0, 1)), (56, (.aload_n 1, 1)), (57, (.getfield 35, 3)), (60, (.putfield 35, 3)), (63, (.return_, 1))]]
/-- Night.unfold (LPlayedLaws$House;I)V -/
def jc41 : jCode := [[(0, (.aload_n 0, 1)), (1, (.invokevirtual 43, 3)), (4, (.iconst 0, 1)), (5, (.istore_n 3, 1)), (6, (.iload_n 3, 1)), (7, (.aload_n 1, 1)), (8, (.getfield 46, 3)), (11, (.if_icmp .ge 24, 3)), (14, (.aload_n 0, 1)), (15, (.aload_n 1, 1))], [(16, (.iload_n 3, 1)), (17, (.iload_n 3, 1)), (18, (.ifCond .ne 7, 3)), (21, (.iload_n 2, 1)), (22, (.goto 4, 3)), (25, (.iconst 0, 1)), (26, (.invokevirtual 51, 3)), (29, (.iinc 3 1, 3))], [(32, (.goto (-26), 3)), (35, (.return_, 1))]]
/-- Night.stage (LPlayedLaws$House;II)V -/
def jc42 : jCode := [[(0, (.aload_n 0, 1)), (1, (.aload_n 1, 1)), (2, (.iload_n 2, 1)), (3, (.invokevirtual 55, 3)), (6, (.iconst 0, 1)), (7, (.istore 4, 2)), (9, (.iload 4, 2)), (11, (.aload_n 1, 1)), (12, (.getfield 59, 3)), (15, (.if_icmp .ge 33, 3))], [(18, (.iload_n 3, 1)), (19, (.aload_n 1, 1)), (20, (.getfield 62, 3)), (23, (.iload 4, 2)), (25, (.invokevirtual 65, 3)), (28, (.invokestatic 69, 3)), (31, (.ifCond .eq 11, 3))], [(34, (.aload_n 0, 1)), (35, (.aload_n 1, 1)), (36, (.iload 4, 2)), (38, (.iload_n 2, 1)), (39, (.invokevirtual 73, 3)), (42, (.iinc 4 1, 3)), (45, (.goto (-36), 3))], [(48, (.iconst 0, 1)), (49, (.istore 4, 2)), (51, (.iload 4, 2)), (53, (.aload_n 1, 1)), (54, (.getfield 59, 3)), (57, (.if_icmp .ge 64, 3)), (60, (.aload_n 0, 1)), (61, (.getfield 29, 3))], [(64, (.iload 4, 2)), (66, (.invokevirtual 65, 3)), (69, (.ifCond .eq 6, 3)), (72, (.goto 43, 3)), (75, (.aload_n 0, 1)), (76, (.aload_n 1, 1)), (77, (.aload_n 1, 1)), (78, (.getfield 62, 3))], [(81, (.iload 4, 2)), (83, (.invokevirtual 65, 3)), (86, (.aload_n 1, 1)), (87, (.getfield 76, 3)), (90, (.iload_n 2, 1)), (91, (.invokevirtual 65, 3)), (94, (.invokevirtual 79, 3))], [(97, (.aload_n 0, 1)), (98, (.aload_n 1, 1)), (99, (.iload 4, 2)), (101, (.invokevirtual 82, 3)), (104, (.ifCond .eq 11, 3)), (107, (.aload_n 0, 1)), (108, (.aload_n 1, 1)), (109, (.iload 4, 2)), (111, (.iload_n 2, 1))], [(112, (.invokevirtual 73, 3)), (115, (.iinc 4 1, 3)), (118, (.goto (-67), 3)), (121, (.return_, 1))]]
/-- Night.carries (LPlayedLaws$House;)Z -/
def jc43 : jCode := [[(0, (.aload_n 1, 1)), (1, (.getfield 46, 3)), (4, (.ifCond .le 27, 3)), (7, (.iconst 3, 1)), (8, (.aload_n 1, 1)), (9, (.getfield 59, 3)), (12, (.aload_n 0, 1)), (13, (.getfield 35, 3))], [(16, (.isub, 1)), (17, (.imul, 1)), (18, (.iconst 2, 1)), (19, (.aload_n 1, 1)), (20, (.getfield 59, 3)), (23, (.imul, 1)), (24, (.if_icmp .lt 7, 3)), (27, (.iconst 1, 1)), (28, (.goto 4, 3)), (31, (.iconst 0, 1))], [(32, (.ireturn, 1))]]
/-- Night.watch (LPlayedLaws$House;I)V -/
def jc44 : jCode := [[(0, (.iconst 0, 1)), (1, (.istore_n 3, 1)), (2, (.iload_n 3, 1)), (3, (.aload_n 1, 1)), (4, (.getfield 59, 3)), (7, (.if_icmp .ge 51, 3)), (10, (.aload_n 0, 1)), (11, (.getfield 20, 3)), (14, (.iload_n 3, 1)), (15, (.invokevirtual 65, 3))], [(18, (.ifCond .ne 34, 3)), (21, (.aload_n 0, 1)), (22, (.getfield 23, 3)), (25, (.iload_n 3, 1)), (26, (.invokevirtual 65, 3)), (29, (.ifCond .ne 23, 3))], [(32, (.aload_n 0, 1)), (33, (.getfield 26, 3)), (36, (.iload_n 3, 1)), (37, (.aload_n 0, 1)), (38, (.getfield 26, 3)), (41, (.iload_n 3, 1)), (42, (.invokevirtual 65, 3)), (45, (.iconst 1, 1)), (46, (.iload_n 2, 1)), (47, (.ishl, 1))], [(48, (.ior, 1)), (49, (.invokevirtual 86, 3)), (52, (.iinc 3 1, 3)), (55, (.goto (-53), 3)), (58, (.return_, 1))]]
/-- Night.leave (LPlayedLaws$House;II)V -/
def jc45 : jCode := [[(0, (.aload_n 0, 1)), (1, (.getfield 20, 3)), (4, (.aload_n 1, 1)), (5, (.getfield 62, 3)), (8, (.iload_n 2, 1)), (9, (.invokevirtual 65, 3)), (12, (.iload_n 3, 1)), (13, (.iconst 1, 1)), (14, (.iadd, 1)), (15, (.invokevirtual 86, 3))], [(18, (.aload_n 0, 1)), (19, (.getfield 29, 3)), (22, (.iload_n 2, 1)), (23, (.iconst 1, 1)), (24, (.invokevirtual 86, 3)), (27, (.aload_n 0, 1)), (28, (.dup, 1)), (29, (.getfield 35, 3))], [(32, (.iconst 1, 1)), (33, (.iadd, 1)), (34, (.putfield 35, 3)), (37, (.return_, 1))]]
/-- Night.bore (LPlayedLaws$House;II)V -/
def jc46 : jCode := [[(0, (.aload_n 1, 1)), (1, (.getfield 90, 3)), (4, (.iload_n 3, 1)), (5, (.invokevirtual 65, 3)), (8, (.istore 4, 2)), (10, (.aload_n 0, 1)), (11, (.getfield 14, 3)), (14, (.iload_n 2, 1)), (15, (.invokevirtual 65, 3))], [(18, (.istore 5, 2)), (20, (.aload_n 1, 1)), (21, (.getfield 93, 3)), (24, (.iload_n 2, 1)), (25, (.invokevirtual 65, 3)), (28, (.istore 6, 2)), (30, (.aload_n 1, 1)), (31, (.getfield 96, 3))], [(34, (.iload_n 2, 1)), (35, (.invokevirtual 65, 3)), (38, (.aload_n 1, 1)), (39, (.getfield 99, 3)), (42, (.iload_n 3, 1)), (43, (.invokevirtual 65, 3)), (46, (.if_icmp .ne 25, 3))], [(49, (.aload_n 0, 1)), (50, (.getfield 14, 3)), (53, (.iload_n 2, 1)), (54, (.iconst 0, 1)), (55, (.iload 5, 2)), (57, (.iload 4, 2)), (59, (.iconst 2, 1)), (60, (.idiv, 1)), (61, (.isub, 1)), (62, (.invokestatic 102, 3))], [(65, (.invokevirtual 86, 3)), (68, (.goto 48, 3)), (71, (.iload 4, 2)), (73, (.iconst 2, 1)), (74, (.iconst 3, 1)), (75, (.aload_n 1, 1)), (76, (.getfield 108, 3)), (79, (.iload_n 3, 1))], [(80, (.invokevirtual 65, 3)), (83, (.invokestatic 111, 3)), (86, (.imul, 1)), (87, (.iadd, 1)), (88, (.istore 7, 2)), (90, (.aload_n 0, 1)), (91, (.getfield 14, 3)), (94, (.iload_n 2, 1)), (95, (.iload 5, 2))], [(97, (.iload 6, 2)), (99, (.iconst 2, 1)), (100, (.if_icmp .ne 10, 3)), (103, (.iconst 2, 1)), (104, (.iload 7, 2)), (106, (.imul, 1)), (107, (.goto 5, 3)), (110, (.iload 7, 2))], [(112, (.iadd, 1)), (113, (.invokevirtual 86, 3)), (116, (.iload 6, 2)), (118, (.iconst 1, 1)), (119, (.if_icmp .ne 35, 3)), (122, (.aload_n 0, 1)), (123, (.getfield 23, 3)), (126, (.iload_n 2, 1)), (127, (.aload_n 0, 1))], [(128, (.getfield 14, 3)), (131, (.iload_n 2, 1)), (132, (.invokevirtual 65, 3)), (135, (.aload_n 1, 1)), (136, (.getfield 114, 3)), (139, (.iload_n 2, 1)), (140, (.invokevirtual 65, 3)), (143, (.if_icmp .le 7, 3))], [(146, (.iconst 1, 1)), (147, (.goto 4, 3)), (150, (.iconst 0, 1)), (151, (.invokevirtual 86, 3)), (154, (.return_, 1))]]
/-- Night.isDrivenOut (LPlayedLaws$House;I)Z -/
def jc47 : jCode := [[(0, (.aload_n 1, 1)), (1, (.getfield 62, 3)), (4, (.iload_n 2, 1)), (5, (.invokevirtual 65, 3)), (8, (.istore_n 3, 1)), (9, (.aload_n 1, 1)), (10, (.getfield 93, 3)), (13, (.iload_n 3, 1)), (14, (.invokevirtual 65, 3))], [(17, (.istore 4, 2)), (19, (.iload 4, 2)), (21, (.iconst 1, 1)), (22, (.if_icmp .eq 9, 3)), (25, (.iload 4, 2)), (27, (.iconst 3, 1)), (28, (.if_icmp .ne 5, 3)), (31, (.iconst 0, 1))], [(32, (.ireturn, 1)), (33, (.aload_n 0, 1)), (34, (.getfield 29, 3)), (37, (.iload_n 2, 1)), (38, (.iconst 1, 1)), (39, (.isub, 1)), (40, (.invokevirtual 65, 3)), (43, (.aload_n 0, 1)), (44, (.getfield 29, 3)), (47, (.iload_n 2, 1))], [(48, (.iconst 1, 1)), (49, (.iadd, 1)), (50, (.invokevirtual 65, 3)), (53, (.iadd, 1)), (54, (.istore 5, 2)), (56, (.aload_n 0, 1)), (57, (.getfield 14, 3)), (60, (.iload_n 3, 1)), (61, (.invokevirtual 65, 3))], [(64, (.iconst 0, 1)), (65, (.aload_n 1, 1)), (66, (.getfield 114, 3)), (69, (.iload_n 3, 1)), (70, (.invokevirtual 65, 3)), (73, (.iconst 3, 1)), (74, (.iload 5, 2)), (76, (.imul, 1)), (77, (.isub, 1)), (78, (.invokestatic 102, 3))], [(81, (.if_icmp .le 7, 3)), (84, (.iconst 1, 1)), (85, (.goto 4, 3)), (88, (.iconst 0, 1)), (89, (.ireturn, 1))]]
/-- Outlook.init ()V -/
def jc48 : jCode := [[(0, (.aload_n 0, 1)), (1, (.invokespecial 3, 3)), (4, (.aload_n 0, 1)), (5, (.new 9, 3)), (8, (.dup, 1)), (9, (.invokespecial 11, 3)), (12, (.putfield 12, 3)), (15, (.aload_n 0, 1))], [(16, (.new 18, 3)), (19, (.dup, 1)), (20, (.invokespecial 20, 3)), (23, (.putfield 21, 3)), (26, (.return_, 1))]]
/-- Outlook.fewestClaques (LPlayedLaws$House;)I -/
def jc49 : jCode := [[(0, (.bipush (-4), 2)), (2, (.istore_n 2, 1)), (3, (.bipush 8, 2)), (5, (.istore_n 3, 1)), (6, (.iconst 0, 1)), (7, (.istore 4, 2)), (9, (.iload 4, 2)), (11, (.iconst 1, 1)), (12, (.aload_n 1, 1)), (13, (.getfield 25, 3))], [(16, (.ishl, 1)), (17, (.if_icmp .ge 89, 3)), (20, (.iload 4, 2)), (22, (.invokestatic 29, 3)), (25, (.iload_n 3, 1)), (26, (.if_icmp .lt 6, 3)), (29, (.goto 71, 3))], [(32, (.aload_n 0, 1)), (33, (.getfield 12, 3)), (36, (.aload_n 1, 1)), (37, (.invokevirtual 35, 3)), (40, (.iconst 0, 1)), (41, (.istore 5, 2)), (43, (.iload 5, 2)), (45, (.aload_n 1, 1)), (46, (.getfield 25, 3))], [(49, (.if_icmp .ge 32, 3)), (52, (.iload 4, 2)), (54, (.iload 5, 2)), (56, (.invokestatic 39, 3)), (59, (.ifCond .eq 16, 3)), (62, (.aload_n 0, 1)), (63, (.getfield 12, 3))], [(66, (.getfield 43, 3)), (69, (.iload 5, 2)), (71, (.iconst 3, 1)), (72, (.invokevirtual 47, 3)), (75, (.iinc 5 1, 3)), (78, (.goto (-35), 3))], [(81, (.aload_n 0, 1)), (82, (.invokevirtual 53, 3)), (85, (.ifCond .ne 6, 3)), (88, (.goto 12, 3)), (91, (.iload 4, 2)), (93, (.istore_n 2, 1)), (94, (.iload 4, 2))], [(96, (.invokestatic 29, 3)), (99, (.istore_n 3, 1)), (100, (.iinc 4 1, 3)), (103, (.goto (-94), 3)), (106, (.iload_n 2, 1)), (107, (.ireturn, 1))]]
/-- Outlook.fatalCut (LPlayedLaws$House;)I -/
def jc50 : jCode := [[(0, (.aload_n 0, 1)), (1, (.getfield 12, 3)), (4, (.aload_n 1, 1)), (5, (.invokevirtual 35, 3)), (8, (.aload_n 0, 1)), (9, (.invokevirtual 53, 3)), (12, (.ifCond .ne 6, 3)), (15, (.bipush (-4), 2))], [(17, (.ireturn, 1)), (18, (.iconst 0, 1)), (19, (.istore_n 2, 1)), (20, (.iload_n 2, 1)), (21, (.aload_n 1, 1)), (22, (.getfield 57, 3)), (25, (.if_icmp .ge 45, 3)), (28, (.aload_n 1, 1)), (29, (.iload_n 2, 1)), (30, (.invokevirtual 60, 3))], [(33, (.ifCond .ne 6, 3)), (36, (.goto 28, 3)), (39, (.aload_n 0, 1)), (40, (.getfield 12, 3)), (43, (.aload_n 1, 1)), (44, (.invokevirtual 35, 3)), (47, (.aload_n 0, 1))], [(48, (.getfield 12, 3)), (51, (.iload_n 2, 1)), (52, (.invokevirtual 64, 3)), (55, (.aload_n 0, 1)), (56, (.invokevirtual 53, 3)), (59, (.ifCond .ne 5, 3)), (62, (.iload_n 2, 1)), (63, (.ireturn, 1))], [(64, (.iinc 2 1, 3)), (67, (.goto (-47), 3)), (70, (.bipush (-4), 2)), (72, (.ireturn, 1))]]
/-- Outlook.nightsAhead (LPlayedLaws$House;)I -/
def jc51 : jCode := [[(0, (.aload_n 0, 1)), (1, (.getfield 12, 3)), (4, (.aload_n 1, 1)), (5, (.invokevirtual 35, 3)), (8, (.iconst 0, 1)), (9, (.istore_n 2, 1)), (10, (.iload_n 2, 1)), (11, (.bipush 30, 2)), (13, (.if_icmp .ge 25, 3))], [(16, (.aload_n 0, 1)), (17, (.invokevirtual 53, 3)), (20, (.ifCond .ne 5, 3)), (23, (.iload_n 2, 1)), (24, (.ireturn, 1)), (25, (.aload_n 0, 1)), (26, (.getfield 12, 3)), (29, (.invokevirtual 68, 3))], [(32, (.iinc 2 1, 3)), (35, (.goto (-25), 3)), (38, (.bipush 30, 2)), (40, (.ireturn, 1))]]
/-- Outlook.findAddition (LPlayedLaws$House;)V -/
def jc52 : jCode := [[(0, (.aload_n 0, 1)), (1, (.bipush (-4), 2)), (3, (.putfield 71, 3)), (6, (.aload_n 0, 1)), (7, (.bipush (-4), 2)), (9, (.putfield 74, 3)), (12, (.iconst 0, 1)), (13, (.istore_n 2, 1)), (14, (.iload_n 2, 1)), (15, (.aload_n 1, 1))], [(16, (.getfield 57, 3)), (19, (.if_icmp .ge 43, 3)), (22, (.aload_n 1, 1)), (23, (.iload_n 2, 1)), (24, (.invokevirtual 60, 3)), (27, (.ifCond .eq 6, 3)), (30, (.goto 26, 3))], [(33, (.iconst 0, 1)), (34, (.istore_n 3, 1)), (35, (.iload_n 3, 1)), (36, (.aload_n 1, 1)), (37, (.getfield 77, 3)), (40, (.if_icmp .gt 16, 3)), (43, (.aload_n 0, 1)), (44, (.aload_n 1, 1)), (45, (.iload_n 2, 1)), (46, (.iload_n 3, 1)), (47, (.invokevirtual 80, 3))], [(50, (.iinc 3 1, 3)), (53, (.goto (-18), 3)), (56, (.iinc 2 1, 3)), (59, (.goto (-45), 3)), (62, (.return_, 1))]]
/-- Outlook.tryAddition (LPlayedLaws$House;II)V -/
def jc53 : jCode := [[(0, (.aload_n 0, 1)), (1, (.getfield 12, 3)), (4, (.aload_n 1, 1)), (5, (.invokevirtual 35, 3)), (8, (.aload_n 0, 1)), (9, (.getfield 12, 3)), (12, (.iload_n 2, 1)), (13, (.iload_n 3, 1)), (14, (.invokevirtual 84, 3))], [(17, (.aload_n 0, 1)), (18, (.getfield 21, 3)), (21, (.aload_n 0, 1)), (22, (.getfield 12, 3)), (25, (.iconst 0, 1)), (26, (.invokevirtual 87, 3)), (29, (.aload_n 0, 1)), (30, (.getfield 21, 3))], [(33, (.aload_n 0, 1)), (34, (.getfield 12, 3)), (37, (.invokevirtual 91, 3)), (40, (.ifCond .eq 14, 3)), (43, (.aload_n 0, 1)), (44, (.getfield 12, 3)), (47, (.aload_n 0, 1))], [(48, (.getfield 21, 3)), (51, (.invokevirtual 95, 3)), (54, (.aload_n 0, 1)), (55, (.getfield 12, 3)), (58, (.invokevirtual 99, 3)), (61, (.istore 4, 2)), (63, (.iload 4, 2))], [(65, (.aload_n 0, 1)), (66, (.getfield 74, 3)), (69, (.if_icmp .gt 4, 3)), (72, (.return_, 1)), (73, (.aload_n 0, 1)), (74, (.iload 4, 2)), (76, (.putfield 74, 3)), (79, (.aload_n 0, 1))], [(80, (.bipush 10, 2)), (82, (.iload_n 2, 1)), (83, (.imul, 1)), (84, (.iload_n 3, 1)), (85, (.iadd, 1)), (86, (.putfield 71, 3)), (89, (.return_, 1))]]
/-- Outlook.fittingPatiences (LPlayedLaws$House;LPlayedLaws$Sights;I)I -/
def jc54 : jCode := [[(0, (.iconst 0, 1)), (1, (.istore 4, 2)), (3, (.aload_n 0, 1)), (4, (.getfield 12, 3)), (7, (.aload_n 1, 1)), (8, (.invokevirtual 35, 3)), (11, (.iconst 0, 1)), (12, (.istore 5, 2)), (14, (.iload 5, 2))], [(16, (.bipush 30, 2)), (18, (.if_icmp .gt 40, 3)), (21, (.aload_n 0, 1)), (22, (.getfield 12, 3)), (25, (.getfield 103, 3)), (28, (.iload_n 3, 1)), (29, (.iload 5, 2)), (31, (.invokevirtual 47, 3))], [(34, (.aload_n 0, 1)), (35, (.aload_n 2, 1)), (36, (.iload_n 3, 1)), (37, (.invokevirtual 106, 3)), (40, (.ifCond .eq 12, 3)), (43, (.iload 4, 2)), (45, (.iconst 1, 1)), (46, (.iload 5, 2))], [(48, (.ishl, 1)), (49, (.ior, 1)), (50, (.istore 4, 2)), (52, (.iinc 5 1, 3)), (55, (.goto (-41), 3)), (58, (.iload 4, 2)), (60, (.ireturn, 1))]]
/-- Outlook.fittingTastes (LPlayedLaws$House;LPlayedLaws$Sights;I)I -/
def jc55 : jCode := [[(0, (.iconst 0, 1)), (1, (.istore 4, 2)), (3, (.aload_n 0, 1)), (4, (.getfield 12, 3)), (7, (.aload_n 1, 1)), (8, (.invokevirtual 35, 3)), (11, (.iconst 0, 1)), (12, (.istore 5, 2)), (14, (.iload 5, 2))], [(16, (.iconst 4, 1)), (17, (.if_icmp .ge 40, 3)), (20, (.aload_n 0, 1)), (21, (.getfield 12, 3)), (24, (.getfield 110, 3)), (27, (.iload_n 3, 1)), (28, (.iload 5, 2)), (30, (.invokevirtual 47, 3))], [(33, (.aload_n 0, 1)), (34, (.aload_n 2, 1)), (35, (.iload_n 3, 1)), (36, (.invokevirtual 106, 3)), (39, (.ifCond .eq 12, 3)), (42, (.iload 4, 2)), (44, (.iconst 1, 1)), (45, (.iload 5, 2)), (47, (.ishl, 1))], [(48, (.ior, 1)), (49, (.istore 4, 2)), (51, (.iinc 5 1, 3)), (54, (.goto (-40), 3)), (57, (.iload 4, 2)), (59, (.ireturn, 1))]]
/-- Outlook.trialAgrees (LPlayedLaws$Sights;I)Z -/
def jc56 : jCode := [[(0, (.aload_n 0, 1)), (1, (.getfield 21, 3)), (4, (.aload_n 0, 1)), (5, (.getfield 12, 3)), (8, (.iconst 0, 1)), (9, (.invokevirtual 87, 3)), (12, (.aload_n 1, 1)), (13, (.iload_n 2, 1)), (14, (.aload_n 0, 1)), (15, (.getfield 21, 3))], [(18, (.getfield 113, 3)), (21, (.iload_n 2, 1)), (22, (.invokevirtual 116, 3)), (25, (.invokevirtual 119, 3)), (28, (.ireturn, 1))]]
/-- Outlook.trialPasses ()Z -/
def jc57 : jCode := [[(0, (.aload_n 0, 1)), (1, (.getfield 21, 3)), (4, (.aload_n 0, 1)), (5, (.getfield 12, 3)), (8, (.iconst 0, 1)), (9, (.invokevirtual 87, 3)), (12, (.aload_n 0, 1)), (13, (.getfield 21, 3))], [(16, (.aload_n 0, 1)), (17, (.getfield 12, 3)), (20, (.invokevirtual 91, 3)), (23, (.ireturn, 1))]]
/-- Row.init (I)V -/
def jc58 : jCode := [[(0, (.aload_n 0, 1)), (1, (.invokespecial 3, 3)), (4, (.aload_n 0, 1)), (5, (.iload_n 1, 1)), (6, (.ifCond .ge 7, 3)), (9, (.iconst 0, 1)), (10, (.goto 4, 3)), (13, (.iload_n 1, 1)), (14, (.newarray .int, 2))], [(16, (.putfield 9, 3)), (19, (.return_, 1))]]
/-- Row.at (I)I -/
def jc59 : jCode := [[(0, (.iload_n 1, 1)), (1, (.ifCond .lt 21, 3)), (4, (.iload_n 1, 1)), (5, (.aload_n 0, 1)), (6, (.getfield 9, 3)), (9, (.arraylength, 1)), (10, (.if_icmp .ge 12, 3)), (13, (.aload_n 0, 1)), (14, (.getfield 9, 3))], [(17, (.iload_n 1, 1)), (18, (.iaload, 1)), (19, (.goto 4, 3)), (22, (.iconst 0, 1)), (23, (.ireturn, 1))]]
/-- Row.put (II)V -/
def jc60 : jCode := [[(0, (.iload_n 1, 1)), (1, (.ifCond .lt 19, 3)), (4, (.iload_n 1, 1)), (5, (.aload_n 0, 1)), (6, (.getfield 9, 3)), (9, (.arraylength, 1)), (10, (.if_icmp .ge 10, 3)), (13, (.aload_n 0, 1)), (14, (.getfield 9, 3))], [(17, (.iload_n 1, 1)), (18, (.iload_n 2, 1)), (19, (.iastore, 1)), (20, (.return_, 1))]]
/-- Row.placeOf (II)I -/
def jc61 : jCode := [[(0, (.iconst 0, 1)), (1, (.istore_n 3, 1)), (2, (.iload_n 3, 1)), (3, (.iload_n 2, 1)), (4, (.if_icmp .ge 20, 3)), (7, (.aload_n 0, 1)), (8, (.iload_n 3, 1)), (9, (.invokevirtual 15, 3)), (12, (.iload_n 1, 1)), (13, (.if_icmp .ne 5, 3))], [(16, (.iload_n 3, 1)), (17, (.ireturn, 1)), (18, (.iinc 3 1, 3)), (21, (.goto (-19), 3)), (24, (.bipush (-4), 2)), (26, (.ireturn, 1))]]
/-- Row.trade (II)V -/
def jc62 : jCode := [[(0, (.aload_n 0, 1)), (1, (.iload_n 1, 1)), (2, (.invokevirtual 15, 3)), (5, (.istore_n 3, 1)), (6, (.aload_n 0, 1)), (7, (.iload_n 1, 1)), (8, (.aload_n 0, 1)), (9, (.iload_n 2, 1)), (10, (.invokevirtual 15, 3)), (13, (.invokevirtual 19, 3))], [(16, (.aload_n 0, 1)), (17, (.iload_n 2, 1)), (18, (.iload_n 3, 1)), (19, (.invokevirtual 19, 3)), (22, (.return_, 1))]]
/-- Row.insert (III)V -/
def jc63 : jCode := [[(0, (.iload_n 3, 1)), (1, (.istore 4, 2)), (3, (.iload 4, 2)), (5, (.iload_n 1, 1)), (6, (.if_icmp .le 23, 3)), (9, (.aload_n 0, 1)), (10, (.iload 4, 2)), (12, (.aload_n 0, 1)), (13, (.iload 4, 2)), (15, (.iconst 1, 1))], [(16, (.isub, 1)), (17, (.invokevirtual 15, 3)), (20, (.invokevirtual 19, 3)), (23, (.iinc 4 (-1), 3)), (26, (.goto (-23), 3)), (29, (.aload_n 0, 1)), (30, (.iload_n 1, 1)), (31, (.iload_n 2, 1))], [(32, (.invokevirtual 19, 3)), (35, (.return_, 1))]]
/-- Row.remove (II)V -/
def jc64 : jCode := [[(0, (.iload_n 1, 1)), (1, (.istore_n 3, 1)), (2, (.iload_n 3, 1)), (3, (.iload_n 2, 1)), (4, (.iconst 1, 1)), (5, (.isub, 1)), (6, (.if_icmp .ge 21, 3)), (9, (.aload_n 0, 1)), (10, (.iload_n 3, 1)), (11, (.aload_n 0, 1)), (12, (.iload_n 3, 1)), (13, (.iconst 1, 1)), (14, (.iadd, 1)), (15, (.invokevirtual 15, 3))], [(18, (.invokevirtual 19, 3)), (21, (.iinc 3 1, 3)), (24, (.goto (-22), 3)), (27, (.return_, 1))]]
/-- Row.clear ()V -/
def jc65 : jCode := [[(0, (.aload_n 0, 1)), (1, (.getfield 9, 3)), (4, (.iconst 0, 1)), (5, (.invokestatic 23, 3)), (8, (.return_, 1))]]
/-- Row.numberThrough ()V -/
def jc66 : jCode := [[(0, (.iconst 0, 1)), (1, (.istore_n 1, 1)), (2, (.iload_n 1, 1)), (3, (.aload_n 0, 1)), (4, (.getfield 9, 3)), (7, (.arraylength, 1)), (8, (.if_icmp .ge 15, 3)), (11, (.aload_n 0, 1)), (12, (.iload_n 1, 1)), (13, (.iload_n 1, 1)), (14, (.invokevirtual 19, 3))], [(17, (.iinc 1 1, 3)), (20, (.goto (-18), 3)), (23, (.return_, 1))]]
/-- Row.copy (LPlayedLaws$Row;)V -/
def jc67 : jCode := [[(0, (.aload_n 1, 1)), (1, (.getfield 9, 3)), (4, (.iconst 0, 1)), (5, (.aload_n 0, 1)), (6, (.getfield 9, 3)), (9, (.iconst 0, 1)), (10, (.aload_n 0, 1)), (11, (.getfield 9, 3)), (14, (.arraylength, 1)), (15, (.aload_n 1, 1))], [(16, (.getfield 9, 3)), (19, (.arraylength, 1)), (20, (.invokestatic 29, 3)), (23, (.invokestatic 35, 3)), (26, (.return_, 1))]]
/-- Shortest.init ()V -/
def jc68 : jCode := [[(0, (.aload_n 0, 1)), (1, (.invokespecial 3, 3)), (4, (.aload_n 0, 1)), (5, (.new 9, 3)), (8, (.dup, 1)), (9, (.invokespecial 11, 3)), (12, (.putfield 12, 3)), (15, (.aload_n 0, 1))], [(16, (.bipush 8, 2)), (18, (.anewarray 18, 3)), (21, (.putfield 20, 3)), (24, (.aload_n 0, 1)), (25, (.new 24, 3)), (28, (.dup, 1)), (29, (.bipush 7, 2)), (31, (.invokespecial 26, 3))], [(34, (.putfield 29, 3)), (37, (.aload_n 0, 1)), (38, (.bipush (-4), 2)), (40, (.putfield 33, 3)), (43, (.iconst 0, 1)), (44, (.istore_n 1, 1)), (45, (.iload_n 1, 1)), (46, (.aload_n 0, 1)), (47, (.getfield 20, 3))], [(50, (.arraylength, 1)), (51, (.if_icmp .ge 22, 3)), (54, (.aload_n 0, 1)), (55, (.getfield 20, 3)), (58, (.iload_n 1, 1)), (59, (.new 18, 3)), (62, (.dup, 1)), (63, (.invokespecial 37, 3))], [(66, (.aastore, 1)), (67, (.iinc 1 1, 3)), (70, (.goto (-25), 3)), (73, (.return_, 1))]]
/-- Shortest.find (LPlayedLaws$House;II)V -/
def jc69 : jCode := [[(0, (.iload_n 2, 1)), (1, (.aload_n 0, 1)), (2, (.getfield 38, 3)), (5, (.if_icmp .ne 12, 3)), (8, (.iload_n 3, 1)), (9, (.aload_n 0, 1)), (10, (.getfield 33, 3)), (13, (.if_icmp .ne 4, 3))], [(16, (.return_, 1)), (17, (.aload_n 0, 1)), (18, (.iload_n 2, 1)), (19, (.putfield 38, 3)), (22, (.aload_n 0, 1)), (23, (.iload_n 3, 1)), (24, (.putfield 33, 3)), (27, (.aload_n 0, 1)), (28, (.getfield 12, 3)), (31, (.aload_n 1, 1))], [(32, (.invokevirtual 41, 3)), (35, (.aload_n 0, 1)), (36, (.iconst 0, 1)), (37, (.putfield 45, 3)), (40, (.aload_n 0, 1)), (41, (.sipush 141, 3)), (44, (.putfield 48, 3)), (47, (.aload_n 0, 1))], [(48, (.iconst 0, 1)), (49, (.iconst 0, 1)), (50, (.iconst 0, 1)), (51, (.iload_n 2, 1)), (52, (.invokestatic 51, 3)), (55, (.return_, 1))]]
/-- Shortest.extend (LPlayedLaws$Shortest;IIII)V -/
def jc70 : jCode := [[(0, (.iload_n 1, 1)), (1, (.bipush 7, 2)), (3, (.if_icmp .lt 4, 3)), (6, (.return_, 1)), (7, (.iconst 0, 1)), (8, (.istore 5, 2)), (10, (.iload 5, 2)), (12, (.aload_n 0, 1)), (13, (.getfield 12, 3))], [(16, (.getfield 55, 3)), (19, (.if_icmp .ge 103, 3)), (22, (.iload_n 3, 1)), (23, (.aload_n 0, 1)), (24, (.getfield 12, 3)), (27, (.getfield 58, 3)), (30, (.iload 5, 2))], [(32, (.invokevirtual 60, 3)), (35, (.iadd, 1)), (36, (.istore 6, 2)), (38, (.iload_n 2, 1)), (39, (.iload 5, 2)), (41, (.invokestatic 64, 3)), (44, (.ifCond .ne 72, 3)), (47, (.iload 6, 2))], [(49, (.aload_n 0, 1)), (50, (.getfield 48, 3)), (53, (.if_icmp .lt 6, 3)), (56, (.goto 60, 3)), (59, (.aload_n 0, 1)), (60, (.iload_n 1, 1)), (61, (.iload 5, 2)), (63, (.invokevirtual 68, 3))], [(66, (.ifCond .ne 6, 3)), (69, (.goto 47, 3)), (72, (.iload 4, 2)), (74, (.aload_n 0, 1)), (75, (.iload 5, 2)), (77, (.invokevirtual 71, 3))], [(80, (.iconst (-1), 1)), (81, (.ixor, 1)), (82, (.iand, 1)), (83, (.istore 7, 2)), (85, (.iload 7, 2)), (87, (.ifCond .ne 12, 3)), (90, (.aload_n 0, 1)), (91, (.iload_n 1, 1)), (92, (.iconst 1, 1)), (93, (.iadd, 1)), (94, (.iload 6, 2))], [(96, (.invokevirtual 74, 3)), (99, (.aload_n 0, 1)), (100, (.iload_n 1, 1)), (101, (.iconst 1, 1)), (102, (.iadd, 1)), (103, (.iload_n 2, 1)), (104, (.iconst 1, 1)), (105, (.iload 5, 2)), (107, (.ishl, 1)), (108, (.ior, 1)), (109, (.iload 6, 2)), (111, (.iload 7, 2))], [(113, (.invokestatic 51, 3)), (116, (.iinc 5 1, 3)), (119, (.goto (-109), 3)), (122, (.return_, 1))]]
/-- Shortest.endures (II)Z -/
def jc71 : jCode := [[(0, (.aload_n 0, 1)), (1, (.iload_n 1, 1)), (2, (.invokevirtual 78, 3)), (5, (.astore_n 3, 1)), (6, (.aload_n 0, 1)), (7, (.iload_n 1, 1)), (8, (.iconst 1, 1)), (9, (.iadd, 1)), (10, (.invokevirtual 78, 3)), (13, (.astore 4, 2)), (15, (.aload_n 3, 1))], [(16, (.ifnull 8, 3)), (19, (.aload 4, 2)), (21, (.ifnonnull 5, 3)), (24, (.iconst 0, 1)), (25, (.ireturn, 1)), (26, (.aload_n 0, 1)), (27, (.getfield 12, 3)), (30, (.getfield 82, 3))], [(33, (.iload_n 1, 1)), (34, (.iload_n 2, 1)), (35, (.invokevirtual 85, 3)), (38, (.aload_n 0, 1)), (39, (.getfield 12, 3)), (42, (.iload_n 1, 1)), (43, (.iconst 1, 1)), (44, (.iadd, 1)), (45, (.putfield 88, 3))], [(48, (.aload 4, 2)), (50, (.aload_n 3, 1)), (51, (.invokevirtual 91, 3)), (54, (.aload 4, 2)), (56, (.aload_n 0, 1)), (57, (.getfield 12, 3)), (60, (.iload_n 1, 1)), (61, (.iconst 0, 1)), (62, (.invokevirtual 94, 3))], [(65, (.aload 4, 2)), (67, (.aload_n 0, 1)), (68, (.getfield 12, 3)), (71, (.invokevirtual 98, 3)), (74, (.ireturn, 1))]]
/-- Shortest.evening (I)LPlayedLaws$Night; -/
def jc72 : jCode := [[(0, (.iload_n 1, 1)), (1, (.ifCond .lt 21, 3)), (4, (.iload_n 1, 1)), (5, (.aload_n 0, 1)), (6, (.getfield 20, 3)), (9, (.arraylength, 1)), (10, (.if_icmp .ge 12, 3)), (13, (.aload_n 0, 1)), (14, (.getfield 20, 3))], [(17, (.iload_n 1, 1)), (18, (.aaload, 1)), (19, (.goto 4, 3)), (22, (.aconst_null, 1)), (23, (.areturn, 1))]]
/-- Shortest.bindable (I)I -/
def jc73 : jCode := [[(0, (.aload_n 0, 1)), (1, (.getfield 12, 3)), (4, (.getfield 102, 3)), (7, (.iload_n 1, 1)), (8, (.invokevirtual 60, 3)), (11, (.iconst 3, 1)), (12, (.if_icmp .ne 7, 3)), (15, (.iconst 0, 1))], [(16, (.goto 11, 3)), (19, (.aload_n 0, 1)), (20, (.getfield 12, 3)), (23, (.iload_n 1, 1)), (24, (.invokevirtual 105, 3)), (27, (.ireturn, 1))]]
/-- Shortest.note (II)V -/
def jc74 : jCode := [[(0, (.aload_n 0, 1)), (1, (.iload_n 1, 1)), (2, (.putfield 45, 3)), (5, (.aload_n 0, 1)), (6, (.iload_n 2, 1)), (7, (.putfield 48, 3)), (10, (.aload_n 0, 1)), (11, (.getfield 29, 3)), (14, (.aload_n 0, 1)), (15, (.getfield 12, 3))], [(18, (.getfield 82, 3)), (21, (.invokevirtual 108, 3)), (24, (.return_, 1))]]
/-- Sights.init ()V -/
def jc75 : jCode := [[(0, (.aload_n 0, 1)), (1, (.invokespecial 3, 3)), (4, (.aload_n 0, 1)), (5, (.new 9, 3)), (8, (.dup, 1)), (9, (.bipush 6, 2)), (11, (.invokespecial 11, 3)), (14, (.putfield 14, 3))], [(17, (.aload_n 0, 1)), (18, (.new 9, 3)), (21, (.dup, 1)), (22, (.bipush 6, 2)), (24, (.invokespecial 11, 3)), (27, (.putfield 20, 3)), (30, (.return_, 1))]]
/-- Sights.note (II)Z -/
def jc76 : jCode := [[(0, (.aload_n 0, 1)), (1, (.getfield 23, 3)), (4, (.bipush 6, 2)), (6, (.if_icmp .lt 5, 3)), (9, (.iconst 0, 1)), (10, (.ireturn, 1)), (11, (.aload_n 0, 1)), (12, (.getfield 14, 3)), (15, (.aload_n 0, 1))], [(16, (.getfield 23, 3)), (19, (.iload_n 1, 1)), (20, (.invokevirtual 27, 3)), (23, (.aload_n 0, 1)), (24, (.getfield 20, 3)), (27, (.aload_n 0, 1)), (28, (.getfield 23, 3)), (31, (.iload_n 2, 1))], [(32, (.invokevirtual 27, 3)), (35, (.aload_n 0, 1)), (36, (.dup, 1)), (37, (.getfield 23, 3)), (40, (.iconst 1, 1)), (41, (.iadd, 1)), (42, (.putfield 23, 3)), (45, (.iconst 1, 1)), (46, (.ireturn, 1))]]
/-- Sights.agree (II)Z -/
def jc77 : jCode := [[(0, (.iconst 0, 1)), (1, (.istore_n 3, 1)), (2, (.iload_n 3, 1)), (3, (.aload_n 0, 1)), (4, (.getfield 23, 3)), (7, (.if_icmp .ge 35, 3)), (10, (.aload_n 0, 1)), (11, (.getfield 14, 3)), (14, (.iload_n 3, 1)), (15, (.invokevirtual 31, 3))], [(18, (.iload_n 1, 1)), (19, (.if_icmp .ne 17, 3)), (22, (.aload_n 0, 1)), (23, (.getfield 20, 3)), (26, (.iload_n 3, 1)), (27, (.invokevirtual 31, 3)), (30, (.iload_n 2, 1)), (31, (.if_icmp .eq 5, 3))], [(34, (.iconst 0, 1)), (35, (.ireturn, 1)), (36, (.iinc 3 1, 3)), (39, (.goto (-37), 3)), (42, (.iconst 1, 1)), (43, (.ireturn, 1))]]
/-- Text.init ()V -/
def jc78 : jCode := [[(0, (.aload_n 0, 1)), (1, (.invokespecial 3, 3)), (4, (.aload_n 0, 1)), (5, (.new 9, 3)), (8, (.dup, 1)), (9, (.sipush 200, 3)), (12, (.invokespecial 11, 3)), (15, (.putfield 14, 3))], [(18, (.aload_n 0, 1)), (19, (.new 20, 3)), (22, (.dup, 1)), (23, (.invokespecial 22, 3)), (26, (.putfield 23, 3)), (29, (.return_, 1))]]
/-- Text.append (I)Z -/
def jc79 : jCode := [[(0, (.aload_n 0, 1)), (1, (.getfield 27, 3)), (4, (.sipush 200, 3)), (7, (.if_icmp .lt 5, 3)), (10, (.iconst 0, 1)), (11, (.ireturn, 1)), (12, (.aload_n 0, 1)), (13, (.getfield 14, 3))], [(16, (.aload_n 0, 1)), (17, (.getfield 27, 3)), (20, (.iload_n 1, 1)), (21, (.invokevirtual 31, 3)), (24, (.aload_n 0, 1)), (25, (.dup, 1)), (26, (.getfield 27, 3)), (29, (.iconst 1, 1)), (30, (.iadd, 1)), (31, (.putfield 27, 3))], [(34, (.iconst 1, 1)), (35, (.ireturn, 1))]]
/-- Text.read ()I -/
def jc80 : jCode := [[(0, (.aload_n 0, 1)), (1, (.getfield 23, 3)), (4, (.invokevirtual 35, 3)), (7, (.aload_n 0, 1)), (8, (.iconst 0, 1)), (9, (.putfield 38, 3)), (12, (.iconst 0, 1)), (13, (.istore_n 1, 1)), (14, (.iload_n 1, 1)), (15, (.sipush 200, 3))], [(18, (.if_icmp .ge 34, 3)), (21, (.aload_n 0, 1)), (22, (.getfield 38, 3)), (25, (.aload_n 0, 1)), (26, (.getfield 27, 3)), (29, (.if_icmp .ge 23, 3))], [(32, (.aload_n 0, 1)), (33, (.getfield 38, 3)), (36, (.istore_n 2, 1)), (37, (.aload_n 0, 1)), (38, (.invokevirtual 41, 3)), (41, (.ifCond .ne 5, 3)), (44, (.iload_n 2, 1)), (45, (.ireturn, 1)), (46, (.iinc 1 1, 3))], [(49, (.goto (-35), 3)), (52, (.bipush (-4), 2)), (54, (.ireturn, 1))]]
/-- Text.readItem ()Z -/
def jc81 : jCode := [[(0, (.aload_n 0, 1)), (1, (.invokevirtual 45, 3)), (4, (.lookupswitch 64 #[(98, 54), (103, 59), (104, 49), (115, 44)], 44))], [], [], [(48, (.aload_n 0, 1)), (49, (.invokevirtual 49, 3)), (52, (.ireturn, 1)), (53, (.aload_n 0, 1)), (54, (.invokevirtual 52, 3)), (57, (.ireturn, 1)), (58, (.aload_n 0, 1)), (59, (.invokevirtual 55, 3)), (62, (.ireturn, 1)), (63, (.aload_n 0, 1))], [(64, (.invokevirtual 58, 3)), (67, (.ireturn, 1)), (68, (.iconst 0, 1)), (69, (.ireturn, 1))]]
/-- Text.readScene ()Z -/
def jc82 : jCode := [[(0, (.aload_n 0, 1)), (1, (.bipush 44, 2)), (3, (.iconst 0, 1)), (4, (.iconst 3, 1)), (5, (.invokevirtual 61, 3)), (8, (.istore_n 1, 1)), (9, (.aload_n 0, 1)), (10, (.bipush 44, 2)), (12, (.iconst 1, 1)), (13, (.bipush 20, 2)), (15, (.invokevirtual 61, 3))], [(18, (.istore_n 2, 1)), (19, (.aload_n 0, 1)), (20, (.bipush 59, 2)), (22, (.iconst 0, 1)), (23, (.bipush 8, 2)), (25, (.invokevirtual 61, 3)), (28, (.istore_n 3, 1)), (29, (.iload_n 1, 1)), (30, (.ifCond .lt 28, 3))], [(33, (.iload_n 2, 1)), (34, (.ifCond .lt 24, 3)), (37, (.iload_n 3, 1)), (38, (.ifCond .lt 20, 3)), (41, (.aload_n 0, 1)), (42, (.getfield 23, 3)), (45, (.iload_n 1, 1)), (46, (.iload_n 2, 1)), (47, (.iload_n 3, 1))], [(48, (.invokevirtual 65, 3)), (51, (.ifCond .eq 7, 3)), (54, (.iconst 1, 1)), (55, (.goto 4, 3)), (58, (.iconst 0, 1)), (59, (.ireturn, 1))]]
/-- Text.readSeat ()Z -/
def jc83 : jCode := [[(0, (.aload_n 0, 1)), (1, (.bipush 44, 2)), (3, (.iconst 0, 1)), (4, (.iconst 3, 1)), (5, (.invokevirtual 61, 3)), (8, (.istore_n 1, 1)), (9, (.aload_n 0, 1)), (10, (.bipush 44, 2)), (12, (.iconst 0, 1)), (13, (.iconst 3, 1)), (14, (.invokevirtual 61, 3))], [(17, (.istore_n 2, 1)), (18, (.aload_n 0, 1)), (19, (.bipush 59, 2)), (21, (.iconst 0, 1)), (22, (.bipush 30, 2)), (24, (.invokevirtual 61, 3)), (27, (.istore_n 3, 1)), (28, (.iload_n 1, 1)), (29, (.ifCond .lt 28, 3))], [(32, (.iload_n 2, 1)), (33, (.ifCond .lt 24, 3)), (36, (.iload_n 3, 1)), (37, (.ifCond .lt 20, 3)), (40, (.aload_n 0, 1)), (41, (.getfield 23, 3)), (44, (.iload_n 1, 1)), (45, (.iload_n 2, 1)), (46, (.iload_n 3, 1)), (47, (.invokevirtual 69, 3))], [(50, (.ifCond .eq 7, 3)), (53, (.iconst 1, 1)), (54, (.goto 4, 3)), (57, (.iconst 0, 1)), (58, (.ireturn, 1))]]
/-- Text.readBill ()Z -/
def jc84 : jCode := [[(0, (.aload_n 0, 1)), (1, (.getfield 23, 3)), (4, (.iconst 0, 1)), (5, (.putfield 72, 3)), (8, (.iconst 0, 1)), (9, (.istore_n 1, 1)), (10, (.iload_n 1, 1)), (11, (.bipush 7, 2)), (13, (.if_icmp .gt 80, 3))], [(16, (.aload_n 0, 1)), (17, (.invokevirtual 45, 3)), (20, (.istore_n 2, 1)), (21, (.iload_n 2, 1)), (22, (.bipush 59, 2)), (24, (.if_icmp .ne 19, 3)), (27, (.aload_n 0, 1)), (28, (.getfield 23, 3)), (31, (.getfield 72, 3))], [(34, (.ifCond .le 7, 3)), (37, (.iconst 1, 1)), (38, (.goto 4, 3)), (41, (.iconst 0, 1)), (42, (.ireturn, 1)), (43, (.iload_n 2, 1)), (44, (.invokestatic 75, 3)), (47, (.istore_n 3, 1))], [(48, (.aload_n 0, 1)), (49, (.getfield 23, 3)), (52, (.iload_n 3, 1)), (53, (.invokevirtual 79, 3)), (56, (.ifCond .eq 14, 3)), (59, (.aload_n 0, 1)), (60, (.getfield 23, 3)), (63, (.iload_n 3, 1))], [(64, (.invokevirtual 83, 3)), (67, (.ifCond .eq 5, 3)), (70, (.iconst 0, 1)), (71, (.ireturn, 1)), (72, (.aload_n 0, 1)), (73, (.getfield 23, 3)), (76, (.iload_n 3, 1)), (77, (.aload_n 0, 1)), (78, (.getfield 23, 3))], [(81, (.getfield 72, 3)), (84, (.invokevirtual 86, 3)), (87, (.iinc 1 1, 3)), (90, (.goto (-80), 3)), (93, (.iconst 0, 1)), (94, (.ireturn, 1))]]
/-- Text.readTill ()Z -/
def jc85 : jCode := [[(0, (.aload_n 0, 1)), (1, (.bipush 59, 2)), (3, (.iconst 0, 1)), (4, (.bipush 99, 2)), (6, (.invokevirtual 61, 3)), (9, (.istore_n 1, 1)), (10, (.aload_n 0, 1)), (11, (.getfield 23, 3)), (14, (.iload_n 1, 1)), (15, (.putfield 89, 3))], [(18, (.iload_n 1, 1)), (19, (.ifCond .lt 7, 3)), (22, (.iconst 1, 1)), (23, (.goto 4, 3)), (26, (.iconst 0, 1)), (27, (.ireturn, 1))]]
/-- Text.number (III)I -/
def jc86 : jCode := [[(0, (.aload_n 0, 1)), (1, (.invokevirtual 45, 3)), (4, (.invokestatic 75, 3)), (7, (.istore 4, 2)), (9, (.iload 4, 2)), (11, (.ifCond .ge 5, 3)), (14, (.iconst (-1), 1)), (15, (.ireturn, 1))], [(16, (.aload_n 0, 1)), (17, (.invokevirtual 45, 3)), (20, (.istore 5, 2)), (22, (.iload 5, 2)), (24, (.invokestatic 75, 3)), (27, (.ifCond .lt 22, 3)), (30, (.iload 4, 2))], [(32, (.bipush 10, 2)), (34, (.imul, 1)), (35, (.iload 5, 2)), (37, (.invokestatic 75, 3)), (40, (.iadd, 1)), (41, (.istore 4, 2)), (43, (.aload_n 0, 1)), (44, (.invokevirtual 45, 3)), (47, (.istore 5, 2))], [(49, (.iload 5, 2)), (51, (.iload_n 1, 1)), (52, (.if_icmp .ne 18, 3)), (55, (.iload 4, 2)), (57, (.iload_n 2, 1)), (58, (.iload_n 3, 1)), (59, (.invokestatic 92, 3)), (62, (.ifCond .eq 8, 3))], [(65, (.iload 4, 2)), (67, (.goto 4, 3)), (70, (.iconst (-1), 1)), (71, (.ireturn, 1))]]
/-- Text.next ()I -/
def jc87 : jCode := [[(0, (.aload_n 0, 1)), (1, (.getfield 38, 3)), (4, (.aload_n 0, 1)), (5, (.getfield 27, 3)), (8, (.if_icmp .ge 17, 3)), (11, (.aload_n 0, 1)), (12, (.getfield 14, 3)), (15, (.aload_n 0, 1))], [(16, (.getfield 38, 3)), (19, (.invokevirtual 95, 3)), (22, (.goto 5, 3)), (25, (.bipush (-4), 2)), (27, (.istore_n 1, 1)), (28, (.aload_n 0, 1)), (29, (.dup, 1)), (30, (.getfield 38, 3))], [(33, (.iconst 1, 1)), (34, (.iadd, 1)), (35, (.putfield 38, 3)), (38, (.iload_n 1, 1)), (39, (.ireturn, 1))]]
/-- Text.figure (I)I -/
def jc88 : jCode := [[(0, (.iload_n 0, 1)), (1, (.bipush 48, 2)), (3, (.bipush 57, 2)), (5, (.invokestatic 92, 3)), (8, (.ifCond .eq 10, 3)), (11, (.iload_n 0, 1)), (12, (.bipush 48, 2)), (14, (.isub, 1)), (15, (.goto 4, 3))], [(18, (.iconst (-1), 1)), (19, (.ireturn, 1))]]
/-- Laws.init ()V -/
def jc89 : jCode := [[(0, (.aload_n 0, 1)), (1, (.invokespecial 3, 3)), (4, (.aload_n 0, 1)), (5, (.new 9, 3)), (8, (.dup, 1)), (9, (.invokespecial 11, 3)), (12, (.putfield 12, 3)), (15, (.aload_n 0, 1))], [(16, (.new 16, 3)), (19, (.dup, 1)), (20, (.invokespecial 18, 3)), (23, (.putfield 19, 3)), (26, (.aload_n 0, 1)), (27, (.new 23, 3)), (30, (.dup, 1)), (31, (.bipush 8, 2))], [(33, (.invokespecial 25, 3)), (36, (.putfield 28, 3)), (39, (.aload_n 0, 1)), (40, (.new 23, 3)), (43, (.dup, 1)), (44, (.iconst 2, 1)), (45, (.invokespecial 25, 3))], [(48, (.putfield 32, 3)), (51, (.aload_n 0, 1)), (52, (.new 35, 3)), (55, (.dup, 1)), (56, (.invokespecial 37, 3)), (59, (.putfield 38, 3)), (62, (.aload_n 0, 1)), (63, (.new 42, 3))], [(66, (.dup, 1)), (67, (.invokespecial 44, 3)), (70, (.putfield 45, 3)), (73, (.aload_n 0, 1)), (74, (.new 49, 3)), (77, (.dup, 1)), (78, (.invokespecial 51, 3))], [(81, (.putfield 52, 3)), (84, (.aload_n 0, 1)), (85, (.new 56, 3)), (88, (.dup, 1)), (89, (.invokespecial 58, 3)), (92, (.putfield 59, 3)), (95, (.aload_n 0, 1))], [(96, (.new 63, 3)), (99, (.dup, 1)), (100, (.invokespecial 65, 3)), (103, (.putfield 66, 3)), (106, (.aload_n 0, 1)), (107, (.new 70, 3)), (110, (.dup, 1)), (111, (.invokespecial 72, 3))], [(114, (.putfield 73, 3)), (117, (.iconst 0, 1)), (118, (.istore_n 1, 1)), (119, (.iload_n 1, 1)), (120, (.ldc 77, 2)), (122, (.invokevirtual 79, 3)), (125, (.if_icmp .ge 23, 3))], [(128, (.aload_n 0, 1)), (129, (.getfield 12, 3)), (132, (.ldc 77, 2)), (134, (.iload_n 1, 1)), (135, (.invokevirtual 85, 3)), (138, (.invokevirtual 89, 3)), (141, (.pop, 1)), (142, (.iinc 1 1, 3))], [(145, (.goto (-26), 3)), (148, (.aload_n 0, 1)), (149, (.getfield 12, 3)), (152, (.invokevirtual 93, 3)), (155, (.bipush (-4), 2)), (157, (.if_icmp .ne 14, 3))], [(160, (.aload_n 0, 1)), (161, (.aload_n 0, 1)), (162, (.getfield 12, 3)), (165, (.getfield 96, 3)), (168, (.invokevirtual 99, 3)), (171, (.aload_n 0, 1)), (172, (.getfield 12, 3)), (175, (.iconst 0, 1))], [(176, (.putfield 103, 3)), (179, (.return_, 1))]]
/-- Laws.write (I)I -/
def jc90 : jCode := [[(0, (.iload_n 1, 1)), (1, (.bipush 32, 2)), (3, (.bipush 126, 2)), (5, (.invokestatic 106, 3)), (8, (.ifCond .ne 5, 3)), (11, (.iconst (-1), 1)), (12, (.ireturn, 1)), (13, (.aload_n 0, 1)), (14, (.getfield 12, 3))], [(17, (.iload_n 1, 1)), (18, (.invokevirtual 89, 3)), (21, (.ifCond .eq 13, 3)), (24, (.aload_n 0, 1)), (25, (.getfield 12, 3)), (28, (.getfield 103, 3)), (31, (.goto 5, 3))], [(34, (.bipush (-3), 2)), (36, (.ireturn, 1))]]
/-- Laws.wipe ()I -/
def jc91 : jCode := [[(0, (.aload_n 0, 1)), (1, (.getfield 12, 3)), (4, (.getfield 103, 3)), (7, (.istore_n 1, 1)), (8, (.aload_n 0, 1)), (9, (.getfield 12, 3)), (12, (.iconst 0, 1)), (13, (.putfield 103, 3))], [(16, (.iload_n 1, 1)), (17, (.ireturn, 1))]]
/-- Laws.fault ()I -/
def jc92 : jCode := [[(0, (.aload_n 0, 1)), (1, (.getfield 12, 3)), (4, (.invokevirtual 93, 3)), (7, (.ireturn, 1))]]
/-- Laws.lay ()I -/
def jc93 : jCode := [[(0, (.aload_n 0, 1)), (1, (.getfield 12, 3)), (4, (.invokevirtual 93, 3)), (7, (.bipush (-4), 2)), (9, (.if_icmp .ne 29, 3)), (12, (.aload_n 0, 1)), (13, (.getfield 12, 3))], [(16, (.getfield 96, 3)), (19, (.getfield 110, 3)), (22, (.ifCond .eq 16, 3)), (25, (.aload_n 0, 1)), (26, (.getfield 12, 3)), (29, (.getfield 96, 3))], [(32, (.getfield 113, 3)), (35, (.ifCond .ne 6, 3)), (38, (.bipush (-2), 2)), (40, (.ireturn, 1)), (41, (.aload_n 0, 1)), (42, (.aload_n 0, 1)), (43, (.getfield 12, 3)), (46, (.getfield 96, 3))], [(49, (.invokevirtual 99, 3)), (52, (.aload_n 0, 1)), (53, (.getfield 19, 3)), (56, (.getfield 113, 3)), (59, (.ireturn, 1))]]
/-- Laws.scene (II)I -/
def jc94 : jCode := [[(0, (.aload_n 0, 1)), (1, (.getfield 19, 3)), (4, (.iload_n 1, 1)), (5, (.invokevirtual 116, 3)), (8, (.ifCond .ne 5, 3)), (11, (.iconst (-1), 1)), (12, (.ireturn, 1)), (13, (.iload_n 2, 1)), (14, (.tableswitch 112 0 4 #[34, 46, 58, 91, 100], 34))], [], [], [(48, (.aload_n 0, 1)), (49, (.getfield 19, 3)), (52, (.getfield 119, 3)), (55, (.iload_n 1, 1)), (56, (.invokevirtual 123, 3)), (59, (.ireturn, 1)), (60, (.aload_n 0, 1)), (61, (.getfield 19, 3))], [(64, (.getfield 129, 3)), (67, (.iload_n 1, 1)), (68, (.invokevirtual 123, 3)), (71, (.ireturn, 1)), (72, (.aload_n 0, 1)), (73, (.getfield 19, 3)), (76, (.getfield 132, 3)), (79, (.iload_n 1, 1))], [(80, (.invokevirtual 123, 3)), (83, (.bipush 8, 2)), (85, (.if_icmp .ne 8, 3)), (88, (.bipush (-4), 2)), (90, (.goto 14, 3)), (93, (.aload_n 0, 1)), (94, (.getfield 19, 3))], [(97, (.getfield 132, 3)), (100, (.iload_n 1, 1)), (101, (.invokevirtual 123, 3)), (104, (.ireturn, 1)), (105, (.aload_n 0, 1)), (106, (.getfield 19, 3)), (109, (.iload_n 1, 1)), (110, (.invokevirtual 135, 3))], [(113, (.ireturn, 1)), (114, (.aload_n 0, 1)), (115, (.getfield 19, 3)), (118, (.getfield 138, 3)), (121, (.iload_n 1, 1)), (122, (.invokevirtual 123, 3)), (125, (.ireturn, 1)), (126, (.iconst (-1), 1)), (127, (.ireturn, 1))]]
/-- Laws.seat (II)I -/
def jc95 : jCode := [[(0, (.aload_n 0, 1)), (1, (.getfield 19, 3)), (4, (.iload_n 1, 1)), (5, (.invokevirtual 141, 3)), (8, (.ifCond .ne 5, 3)), (11, (.iconst (-1), 1)), (12, (.ireturn, 1)), (13, (.iload_n 2, 1)), (14, (.tableswitch 91 0 4 #[34, 46, 58, 70, 79], 34))], [], [], [(48, (.aload_n 0, 1)), (49, (.getfield 19, 3)), (52, (.getfield 144, 3)), (55, (.iload_n 1, 1)), (56, (.invokevirtual 123, 3)), (59, (.ireturn, 1)), (60, (.aload_n 0, 1)), (61, (.getfield 19, 3))], [(64, (.getfield 147, 3)), (67, (.iload_n 1, 1)), (68, (.invokevirtual 123, 3)), (71, (.ireturn, 1)), (72, (.aload_n 0, 1)), (73, (.getfield 19, 3)), (76, (.getfield 150, 3)), (79, (.iload_n 1, 1))], [(80, (.invokevirtual 123, 3)), (83, (.ireturn, 1)), (84, (.aload_n 0, 1)), (85, (.getfield 19, 3)), (88, (.iload_n 1, 1)), (89, (.invokevirtual 153, 3)), (92, (.ireturn, 1)), (93, (.aload_n 0, 1)), (94, (.getfield 19, 3))], [(97, (.getfield 156, 3)), (100, (.iload_n 1, 1)), (101, (.invokevirtual 123, 3)), (104, (.ireturn, 1)), (105, (.iconst (-1), 1)), (106, (.ireturn, 1))]]
/-- Laws.tonight (II)I -/
def jc96 : jCode := [[(0, (.aload_n 0, 1)), (1, (.getfield 19, 3)), (4, (.iload_n 1, 1)), (5, (.invokevirtual 141, 3)), (8, (.ifCond .eq 12, 3)), (11, (.iload_n 2, 1)), (12, (.iconst 0, 1)), (13, (.iconst 2, 1)), (14, (.invokestatic 106, 3))], [(17, (.ifCond .ne 5, 3)), (20, (.iconst (-1), 1)), (21, (.ireturn, 1)), (22, (.aload_n 0, 1)), (23, (.getfield 45, 3)), (26, (.aload_n 0, 1)), (27, (.getfield 19, 3)), (30, (.iconst 0, 1)), (31, (.invokevirtual 159, 3))], [(34, (.iload_n 2, 1)), (35, (.lookupswitch 68 #[(0, 25), (1, 56)], 25))], [(60, (.aload_n 0, 1)), (61, (.getfield 45, 3))], [(64, (.getfield 163, 3)), (67, (.iload_n 1, 1)), (68, (.invokevirtual 123, 3)), (71, (.ifCond .ne 8, 3)), (74, (.bipush (-4), 2)), (76, (.goto 14, 3)), (79, (.aload_n 0, 1))], [(80, (.getfield 45, 3)), (83, (.getfield 163, 3)), (86, (.iload_n 1, 1)), (87, (.invokevirtual 123, 3)), (90, (.ireturn, 1)), (91, (.aload_n 0, 1)), (92, (.getfield 45, 3)), (95, (.getfield 166, 3))], [(98, (.iload_n 1, 1)), (99, (.invokevirtual 123, 3)), (102, (.ireturn, 1)), (103, (.aload_n 0, 1)), (104, (.getfield 45, 3)), (107, (.getfield 169, 3)), (110, (.iload_n 1, 1)), (111, (.invokevirtual 123, 3))], [(114, (.ireturn, 1))]]
/-- Laws.passes (I)I -/
def jc97 : jCode := [[(0, (.iload_n 1, 1)), (1, (.iconst 0, 1)), (2, (.iconst 1, 1)), (3, (.invokestatic 106, 3)), (6, (.ifCond .ne 5, 3)), (9, (.iconst (-1), 1)), (10, (.ireturn, 1)), (11, (.aload_n 0, 1)), (12, (.getfield 45, 3)), (15, (.aload_n 0, 1))], [(16, (.getfield 19, 3)), (19, (.iconst 0, 1)), (20, (.invokevirtual 159, 3)), (23, (.iload_n 1, 1)), (24, (.ifCond .ne 19, 3)), (27, (.aload_n 0, 1)), (28, (.getfield 19, 3)), (31, (.getfield 113, 3))], [(34, (.aload_n 0, 1)), (35, (.getfield 45, 3)), (38, (.getfield 172, 3)), (41, (.isub, 1)), (42, (.ireturn, 1)), (43, (.aload_n 0, 1)), (44, (.getfield 45, 3)), (47, (.aload_n 0, 1))], [(48, (.getfield 19, 3)), (51, (.invokevirtual 175, 3)), (54, (.ifCond .eq 7, 3)), (57, (.iconst 1, 1)), (58, (.goto 4, 3)), (61, (.iconst 0, 1)), (62, (.ireturn, 1))]]
/-- Laws.add (I)I -/
def jc98 : jCode := [[(0, (.aload_n 0, 1)), (1, (.getfield 19, 3)), (4, (.iload_n 1, 1)), (5, (.invokevirtual 116, 3)), (8, (.ifCond .ne 5, 3)), (11, (.iconst (-1), 1)), (12, (.ireturn, 1)), (13, (.aload_n 0, 1)), (14, (.getfield 19, 3))], [(17, (.iload_n 1, 1)), (18, (.invokevirtual 179, 3)), (21, (.ifCond .eq 6, 3)), (24, (.bipush (-2), 2)), (26, (.ireturn, 1)), (27, (.aload_n 0, 1)), (28, (.invokevirtual 182, 3)), (31, (.aload_n 0, 1))], [(32, (.getfield 19, 3)), (35, (.iload_n 1, 1)), (36, (.aload_n 0, 1)), (37, (.getfield 19, 3)), (40, (.getfield 185, 3)), (43, (.invokevirtual 188, 3)), (46, (.aload_n 0, 1)), (47, (.getfield 19, 3))], [(50, (.iload_n 1, 1)), (51, (.invokevirtual 135, 3)), (54, (.ireturn, 1))]]
/-- Laws.cut (I)I -/
def jc99 : jCode := [[(0, (.aload_n 0, 1)), (1, (.getfield 19, 3)), (4, (.iload_n 1, 1)), (5, (.invokevirtual 116, 3)), (8, (.ifCond .ne 5, 3)), (11, (.iconst (-1), 1)), (12, (.ireturn, 1)), (13, (.aload_n 0, 1)), (14, (.getfield 19, 3))], [(17, (.iload_n 1, 1)), (18, (.invokevirtual 179, 3)), (21, (.ifCond .ne 6, 3)), (24, (.bipush (-2), 2)), (26, (.ireturn, 1)), (27, (.aload_n 0, 1)), (28, (.invokevirtual 182, 3)), (31, (.aload_n 0, 1))], [(32, (.getfield 19, 3)), (35, (.iload_n 1, 1)), (36, (.invokevirtual 192, 3)), (39, (.aload_n 0, 1)), (40, (.getfield 19, 3)), (43, (.getfield 185, 3)), (46, (.ireturn, 1))]]
/-- Laws.play ()I -/
def jc100 : jCode := [[(0, (.aload_n 0, 1)), (1, (.getfield 19, 3)), (4, (.invokevirtual 195, 3)), (7, (.ifCond .ne 6, 3)), (10, (.bipush (-2), 2)), (12, (.ireturn, 1)), (13, (.aload_n 0, 1)), (14, (.invokevirtual 182, 3))], [(17, (.aload_n 0, 1)), (18, (.getfield 45, 3)), (21, (.aload_n 0, 1)), (22, (.getfield 19, 3)), (25, (.iconst 0, 1)), (26, (.invokevirtual 159, 3)), (29, (.aload_n 0, 1)), (30, (.getfield 19, 3))], [(33, (.aload_n 0, 1)), (34, (.getfield 45, 3)), (37, (.invokevirtual 199, 3)), (40, (.aload_n 0, 1)), (41, (.getfield 45, 3)), (44, (.aload_n 0, 1)), (45, (.getfield 19, 3))], [(48, (.invokevirtual 175, 3)), (51, (.ifCond .eq 7, 3)), (54, (.iconst 1, 1)), (55, (.goto 4, 3)), (58, (.iconst 0, 1)), (59, (.ireturn, 1))]]
/-- Laws.swap (II)I -/
def jc101 : jCode := [[(0, (.aload_n 0, 1)), (1, (.getfield 19, 3)), (4, (.iload_n 1, 1)), (5, (.invokevirtual 141, 3)), (8, (.ifCond .eq 19, 3)), (11, (.aload_n 0, 1)), (12, (.getfield 19, 3)), (15, (.iload_n 2, 1))], [(16, (.invokevirtual 141, 3)), (19, (.ifCond .eq 8, 3)), (22, (.iload_n 1, 1)), (23, (.iload_n 2, 1)), (24, (.if_icmp .ne 5, 3)), (27, (.iconst (-1), 1)), (28, (.ireturn, 1)), (29, (.aload_n 0, 1)), (30, (.invokevirtual 182, 3))], [(33, (.aload_n 0, 1)), (34, (.getfield 19, 3)), (37, (.iload_n 1, 1)), (38, (.iload_n 2, 1)), (39, (.invokevirtual 203, 3)), (42, (.aload_n 0, 1)), (43, (.getfield 19, 3)), (46, (.iload_n 1, 1)), (47, (.invokevirtual 153, 3))], [(50, (.ireturn, 1))]]
/-- Laws.hire (I)I -/
def jc102 : jCode := [[(0, (.aload_n 0, 1)), (1, (.getfield 19, 3)), (4, (.iload_n 1, 1)), (5, (.invokevirtual 141, 3)), (8, (.ifCond .ne 5, 3)), (11, (.iconst (-1), 1)), (12, (.ireturn, 1)), (13, (.aload_n 0, 1)), (14, (.getfield 19, 3))], [(17, (.iload_n 1, 1)), (18, (.invokevirtual 206, 3)), (21, (.ifCond .ne 6, 3)), (24, (.bipush (-2), 2)), (26, (.ireturn, 1)), (27, (.aload_n 0, 1)), (28, (.invokevirtual 182, 3)), (31, (.aload_n 0, 1))], [(32, (.getfield 19, 3)), (35, (.iload_n 1, 1)), (36, (.invokevirtual 209, 3)), (39, (.aload_n 0, 1)), (40, (.getfield 19, 3)), (43, (.getfield 212, 3)), (46, (.ireturn, 1))]]
/-- Laws.undo ()I -/
def jc103 : jCode := [[(0, (.aload_n 0, 1)), (1, (.getfield 28, 3)), (4, (.getfield 215, 3)), (7, (.ifCond .ne 6, 3)), (10, (.bipush (-2), 2)), (12, (.ireturn, 1)), (13, (.aload_n 0, 1)), (14, (.getfield 28, 3))], [(17, (.aload_n 0, 1)), (18, (.getfield 19, 3)), (21, (.invokevirtual 218, 3)), (24, (.aload_n 0, 1)), (25, (.dup, 1)), (26, (.getfield 221, 3)), (29, (.iconst 1, 1)), (30, (.iadd, 1)), (31, (.putfield 221, 3))], [(34, (.aload_n 0, 1)), (35, (.getfield 28, 3)), (38, (.getfield 215, 3)), (41, (.ireturn, 1))]]
/-- Laws.soonest (II)I -/
def jc104 : jCode := [[(0, (.iload_n 1, 1)), (1, (.iconst 0, 1)), (2, (.sipush 255, 3)), (5, (.invokestatic 106, 3)), (8, (.ifCond .eq 13, 3)), (11, (.iload_n 2, 1)), (12, (.iconst 0, 1)), (13, (.bipush 7, 2)), (15, (.invokestatic 106, 3))], [(18, (.ifCond .ne 5, 3)), (21, (.iconst (-1), 1)), (22, (.ireturn, 1)), (23, (.aload_n 0, 1)), (24, (.getfield 52, 3)), (27, (.aload_n 0, 1)), (28, (.getfield 19, 3)), (31, (.iload_n 1, 1))], [(32, (.aload_n 0, 1)), (33, (.getfield 221, 3)), (36, (.invokevirtual 224, 3)), (39, (.aload_n 0, 1)), (40, (.getfield 52, 3)), (43, (.getfield 228, 3)), (46, (.ifCond .eq 14, 3))], [(49, (.iload_n 2, 1)), (50, (.aload_n 0, 1)), (51, (.getfield 52, 3)), (54, (.getfield 228, 3)), (57, (.if_icmp .le 6, 3)), (60, (.bipush (-4), 2)), (62, (.ireturn, 1)), (63, (.iload_n 2, 1))], [(64, (.ifCond .ne 13, 3)), (67, (.aload_n 0, 1)), (68, (.getfield 52, 3)), (71, (.getfield 229, 3)), (74, (.goto 16, 3)), (77, (.aload_n 0, 1)), (78, (.getfield 52, 3))], [(81, (.getfield 231, 3)), (84, (.iload_n 2, 1)), (85, (.iconst 1, 1)), (86, (.isub, 1)), (87, (.invokevirtual 123, 3)), (90, (.ireturn, 1))]]
/-- Laws.seating (I)I -/
def jc105 : jCode := [[(0, (.iload_n 1, 1)), (1, (.iconst (-1), 1)), (2, (.if_icmp .eq 16, 3)), (5, (.aload_n 0, 1)), (6, (.getfield 19, 3)), (9, (.iload_n 1, 1)), (10, (.invokevirtual 141, 3)), (13, (.ifCond .ne 5, 3))], [(16, (.iconst (-1), 1)), (17, (.ireturn, 1)), (18, (.aload_n 0, 1)), (19, (.getfield 59, 3)), (22, (.aload_n 0, 1)), (23, (.getfield 19, 3)), (26, (.aload_n 0, 1)), (27, (.getfield 221, 3)), (30, (.invokevirtual 234, 3))], [(33, (.iload_n 1, 1)), (34, (.iconst (-1), 1)), (35, (.if_icmp .ne 13, 3)), (38, (.aload_n 0, 1)), (39, (.getfield 59, 3)), (42, (.getfield 236, 3)), (45, (.goto 14, 3))], [(48, (.aload_n 0, 1)), (49, (.getfield 59, 3)), (52, (.getfield 239, 3)), (55, (.iload_n 1, 1)), (56, (.invokevirtual 123, 3)), (59, (.ireturn, 1))]]
/-- Laws.claques (I)I -/
def jc106 : jCode := [[(0, (.iload_n 1, 1)), (1, (.iconst 0, 1)), (2, (.iconst 1, 1)), (3, (.invokestatic 106, 3)), (6, (.ifCond .ne 5, 3)), (9, (.iconst (-1), 1)), (10, (.ireturn, 1)), (11, (.aload_n 0, 1)), (12, (.getfield 66, 3)), (15, (.aload_n 0, 1))], [(16, (.getfield 19, 3)), (19, (.invokevirtual 240, 3)), (22, (.istore_n 2, 1)), (23, (.iload_n 2, 1)), (24, (.bipush (-4), 2)), (26, (.if_icmp .ne 6, 3)), (29, (.bipush (-4), 2)), (31, (.ireturn, 1))], [(32, (.iload_n 1, 1)), (33, (.ifCond .ne 10, 3)), (36, (.iload_n 2, 1)), (37, (.invokestatic 244, 3)), (40, (.goto 4, 3)), (43, (.iload_n 2, 1)), (44, (.ireturn, 1))]]
/-- Laws.falls ()I -/
def jc107 : jCode := [[(0, (.aload_n 0, 1)), (1, (.getfield 66, 3)), (4, (.aload_n 0, 1)), (5, (.getfield 19, 3)), (8, (.invokevirtual 249, 3)), (11, (.ireturn, 1))]]
/-- Laws.run ()I -/
def jc108 : jCode := [[(0, (.aload_n 0, 1)), (1, (.getfield 66, 3)), (4, (.aload_n 0, 1)), (5, (.getfield 19, 3)), (8, (.invokevirtual 252, 3)), (11, (.ireturn, 1))]]
/-- Laws.most (I)I -/
def jc109 : jCode := [[(0, (.iload_n 1, 1)), (1, (.iconst 0, 1)), (2, (.iconst 1, 1)), (3, (.invokestatic 106, 3)), (6, (.ifCond .ne 5, 3)), (9, (.iconst (-1), 1)), (10, (.ireturn, 1)), (11, (.aload_n 0, 1)), (12, (.getfield 66, 3)), (15, (.aload_n 0, 1))], [(16, (.getfield 19, 3)), (19, (.invokevirtual 255, 3)), (22, (.iload_n 1, 1)), (23, (.ifCond .ne 13, 3)), (26, (.aload_n 0, 1)), (27, (.getfield 66, 3)), (30, (.getfield 258, 3))], [(33, (.goto 10, 3)), (36, (.aload_n 0, 1)), (37, (.getfield 66, 3)), (40, (.getfield 261, 3)), (43, (.ireturn, 1))]]
/-- Laws.see (II)I -/
def jc110 : jCode := [[(0, (.aload_n 0, 1)), (1, (.getfield 19, 3)), (4, (.iload_n 1, 1)), (5, (.invokevirtual 141, 3)), (8, (.ifCond .eq 13, 3)), (11, (.iload_n 2, 1)), (12, (.iconst 0, 1)), (13, (.bipush 7, 2)), (15, (.invokestatic 106, 3))], [(18, (.ifCond .ne 5, 3)), (21, (.iconst (-1), 1)), (22, (.ireturn, 1)), (23, (.aload_n 0, 1)), (24, (.getfield 38, 3)), (27, (.iload_n 1, 1)), (28, (.iload_n 2, 1)), (29, (.invokevirtual 264, 3))], [(32, (.ifCond .eq 13, 3)), (35, (.aload_n 0, 1)), (36, (.getfield 38, 3)), (39, (.getfield 268, 3)), (42, (.goto 5, 3)), (45, (.bipush (-3), 2)), (47, (.ireturn, 1))]]
/-- Laws.forget ()I -/
def jc111 : jCode := [[(0, (.aload_n 0, 1)), (1, (.getfield 38, 3)), (4, (.getfield 268, 3)), (7, (.istore_n 1, 1)), (8, (.aload_n 0, 1)), (9, (.getfield 38, 3)), (12, (.iconst 0, 1)), (13, (.putfield 268, 3))], [(16, (.iload_n 1, 1)), (17, (.ireturn, 1))]]
/-- Laws.fits (II)I -/
def jc112 : jCode := [[(0, (.aload_n 0, 1)), (1, (.getfield 19, 3)), (4, (.iload_n 1, 1)), (5, (.invokevirtual 141, 3)), (8, (.ifCond .eq 12, 3)), (11, (.iload_n 2, 1)), (12, (.iconst 0, 1)), (13, (.iconst 1, 1)), (14, (.invokestatic 106, 3))], [(17, (.ifCond .ne 5, 3)), (20, (.iconst (-1), 1)), (21, (.ireturn, 1)), (22, (.iload_n 2, 1)), (23, (.ifCond .ne 22, 3)), (26, (.aload_n 0, 1)), (27, (.getfield 66, 3)), (30, (.aload_n 0, 1)), (31, (.getfield 19, 3))], [(34, (.aload_n 0, 1)), (35, (.getfield 38, 3)), (38, (.iload_n 1, 1)), (39, (.invokevirtual 271, 3)), (42, (.goto 19, 3)), (45, (.aload_n 0, 1)), (46, (.getfield 66, 3))], [(49, (.aload_n 0, 1)), (50, (.getfield 19, 3)), (53, (.aload_n 0, 1)), (54, (.getfield 38, 3)), (57, (.iload_n 1, 1)), (58, (.invokevirtual 275, 3)), (61, (.ireturn, 1))]]
/-- Laws.coughs (II)I -/
def jc113 : jCode := [[(0, (.iload_n 1, 1)), (1, (.iconst 0, 1)), (2, (.bipush 10, 2)), (4, (.invokestatic 106, 3)), (7, (.ifCond .eq 12, 3)), (10, (.iload_n 2, 1)), (11, (.iconst 0, 1)), (12, (.iconst 1, 1)), (13, (.invokestatic 106, 3))], [(16, (.ifCond .ne 5, 3)), (19, (.iconst (-1), 1)), (20, (.ireturn, 1)), (21, (.aload_n 0, 1)), (22, (.getfield 73, 3)), (25, (.aload_n 0, 1)), (26, (.getfield 19, 3)), (29, (.iload_n 1, 1)), (30, (.invokevirtual 278, 3))], [(33, (.iload_n 2, 1)), (34, (.ifCond .ne 13, 3)), (37, (.aload_n 0, 1)), (38, (.getfield 73, 3)), (41, (.getfield 281, 3)), (44, (.goto 10, 3)), (47, (.aload_n 0, 1))], [(48, (.getfield 73, 3)), (51, (.getfield 284, 3)), (54, (.ireturn, 1))]]
/-- Laws.season (III)I -/
def jc114 : jCode := [[(0, (.iload_n 1, 1)), (1, (.iconst 0, 1)), (2, (.sipush 9999, 3)), (5, (.invokestatic 106, 3)), (8, (.ifCond .eq 22, 3)), (11, (.iload_n 2, 1)), (12, (.iconst 1, 1)), (13, (.bipush 40, 2)), (15, (.invokestatic 106, 3))], [(18, (.ifCond .eq 12, 3)), (21, (.iload_n 3, 1)), (22, (.iconst 0, 1)), (23, (.iconst 1, 1)), (24, (.invokestatic 106, 3)), (27, (.ifCond .ne 5, 3)), (30, (.iconst (-1), 1)), (31, (.ireturn, 1))], [(32, (.aload_n 0, 1)), (33, (.getfield 73, 3)), (36, (.aload_n 0, 1)), (37, (.getfield 19, 3)), (40, (.iload_n 1, 1)), (41, (.iload_n 2, 1)), (42, (.invokevirtual 287, 3)), (45, (.iload_n 3, 1)), (46, (.ifCond .ne 24, 3))], [(49, (.aload_n 0, 1)), (50, (.getfield 73, 3)), (53, (.getfield 290, 3)), (56, (.getfield 293, 3)), (59, (.aload_n 0, 1)), (60, (.getfield 19, 3)), (63, (.getfield 293, 3))], [(66, (.isub, 1)), (67, (.goto 13, 3)), (70, (.aload_n 0, 1)), (71, (.getfield 73, 3)), (74, (.getfield 290, 3)), (77, (.invokevirtual 296, 3))], [(80, (.ireturn, 1))]]
/-- Laws.keep ()I -/
def jc115 : jCode := [[(0, (.aload_n 0, 1)), (1, (.getfield 32, 3)), (4, (.getfield 215, 3)), (7, (.iconst 2, 1)), (8, (.if_icmp .lt 6, 3)), (11, (.bipush (-3), 2)), (13, (.ireturn, 1)), (14, (.aload_n 0, 1)), (15, (.getfield 32, 3))], [(18, (.aload_n 0, 1)), (19, (.getfield 19, 3)), (22, (.invokevirtual 299, 3)), (25, (.aload_n 0, 1)), (26, (.getfield 32, 3)), (29, (.getfield 215, 3))], [(32, (.ireturn, 1))]]
/-- Laws.back ()I -/
def jc116 : jCode := [[(0, (.aload_n 0, 1)), (1, (.getfield 32, 3)), (4, (.getfield 215, 3)), (7, (.ifCond .ne 6, 3)), (10, (.bipush (-2), 2)), (12, (.ireturn, 1)), (13, (.aload_n 0, 1)), (14, (.getfield 32, 3))], [(17, (.aload_n 0, 1)), (18, (.getfield 19, 3)), (21, (.invokevirtual 218, 3)), (24, (.aload_n 0, 1)), (25, (.getfield 28, 3)), (28, (.iconst 0, 1)), (29, (.putfield 215, 3))], [(32, (.aload_n 0, 1)), (33, (.dup, 1)), (34, (.getfield 221, 3)), (37, (.iconst 1, 1)), (38, (.iadd, 1)), (39, (.putfield 221, 3)), (42, (.aload_n 0, 1)), (43, (.getfield 32, 3)), (46, (.getfield 215, 3))], [(49, (.ireturn, 1))]]
/-- Laws.count (I)I -/
def jc117 : jCode := [[(0, (.iload_n 1, 1)), (1, (.tableswitch 159 0 11 #[63, 71, 79, 87, 95, 103, 111, 119, 127, 135, 143, 151], 63))], [], [], [], [(64, (.aload_n 0, 1)), (65, (.getfield 19, 3)), (68, (.getfield 110, 3)), (71, (.ireturn, 1)), (72, (.aload_n 0, 1)), (73, (.getfield 19, 3)), (76, (.getfield 113, 3)), (79, (.ireturn, 1))], [(80, (.aload_n 0, 1)), (81, (.getfield 19, 3)), (84, (.getfield 185, 3)), (87, (.ireturn, 1)), (88, (.aload_n 0, 1)), (89, (.getfield 19, 3)), (92, (.getfield 212, 3)), (95, (.ireturn, 1))], [(96, (.aload_n 0, 1)), (97, (.getfield 19, 3)), (100, (.getfield 302, 3)), (103, (.ireturn, 1)), (104, (.aload_n 0, 1)), (105, (.getfield 19, 3)), (108, (.getfield 293, 3)), (111, (.ireturn, 1))], [(112, (.aload_n 0, 1)), (113, (.getfield 19, 3)), (116, (.invokevirtual 305, 3)), (119, (.ireturn, 1)), (120, (.aload_n 0, 1)), (121, (.getfield 19, 3)), (124, (.invokevirtual 296, 3)), (127, (.ireturn, 1))], [(128, (.aload_n 0, 1)), (129, (.getfield 38, 3)), (132, (.getfield 268, 3)), (135, (.ireturn, 1)), (136, (.aload_n 0, 1)), (137, (.getfield 28, 3)), (140, (.getfield 215, 3)), (143, (.ireturn, 1))], [(144, (.aload_n 0, 1)), (145, (.getfield 32, 3)), (148, (.getfield 215, 3)), (151, (.ireturn, 1)), (152, (.aload_n 0, 1)), (153, (.getfield 12, 3)), (156, (.getfield 103, 3)), (159, (.ireturn, 1))], [(160, (.iconst (-1), 1)), (161, (.ireturn, 1))]]
/-- Laws.open (LPlayedLaws$House;)V -/
def jc118 : jCode := [[(0, (.aload_n 0, 1)), (1, (.getfield 19, 3)), (4, (.aload_n 1, 1)), (5, (.invokevirtual 308, 3)), (8, (.aload_n 0, 1)), (9, (.getfield 28, 3)), (12, (.iconst 0, 1)), (13, (.putfield 215, 3))], [(16, (.aload_n 0, 1)), (17, (.getfield 32, 3)), (20, (.iconst 0, 1)), (21, (.putfield 215, 3)), (24, (.aload_n 0, 1)), (25, (.getfield 38, 3)), (28, (.iconst 0, 1)), (29, (.putfield 268, 3))], [(32, (.aload_n 0, 1)), (33, (.dup, 1)), (34, (.getfield 221, 3)), (37, (.iconst 1, 1)), (38, (.iadd, 1)), (39, (.putfield 221, 3)), (42, (.return_, 1))]]
/-- Laws.remember ()V -/
def jc119 : jCode := [[(0, (.aload_n 0, 1)), (1, (.getfield 28, 3)), (4, (.aload_n 0, 1)), (5, (.getfield 19, 3)), (8, (.invokevirtual 299, 3)), (11, (.aload_n 0, 1)), (12, (.dup, 1)), (13, (.getfield 221, 3))], [(16, (.iconst 1, 1)), (17, (.iadd, 1)), (18, (.putfield 221, 3)), (21, (.return_, 1))]]
/-- Laws.within (III)Z -/
def jc120 : jCode := [[(0, (.iload_n 0, 1)), (1, (.iload_n 1, 1)), (2, (.if_icmp .lt 12, 3)), (5, (.iload_n 0, 1)), (6, (.iload_n 2, 1)), (7, (.if_icmp .gt 7, 3)), (10, (.iconst 1, 1)), (11, (.goto 4, 3)), (14, (.iconst 0, 1)), (15, (.ireturn, 1))]]
/-- Laws.isIn (II)Z -/
def jc121 : jCode := [[(0, (.iload_n 0, 1)), (1, (.iload_n 1, 1)), (2, (.ishr, 1)), (3, (.iconst 1, 1)), (4, (.iand, 1)), (5, (.ifCond .eq 7, 3)), (8, (.iconst 1, 1)), (9, (.goto 4, 3)), (12, (.iconst 0, 1)), (13, (.ireturn, 1))]]
/-- Model.init ()V -/
def jc122 : jCode := [[(0, (.aload_n 0, 1)), (1, (.invokespecial 1, 3)), (4, (.aload_n 0, 1)), (5, (.sipush 200, 3)), (8, (.newarray .byte, 2)), (10, (.putfield 7, 3)), (13, (.aload_n 0, 1)), (14, (.iconst 2, 1)), (15, (.newarray .int, 2))], [(17, (.putfield 13, 3)), (20, (.aload_n 0, 1)), (21, (.bipush 14, 2)), (23, (.newarray .int, 2)), (25, (.putfield 17, 3)), (28, (.aload_n 0, 1)), (29, (.bipush 14, 2)), (31, (.newarray .int, 2))], [(33, (.putfield 20, 3)), (36, (.aload_n 0, 1)), (37, (.bipush 14, 2)), (39, (.newarray .int, 2)), (41, (.putfield 23, 3)), (44, (.aload_n 0, 1)), (45, (.iconst 2, 1)), (46, (.newarray .int, 2))], [(48, (.putfield 26, 3)), (51, (.aload_n 0, 1)), (52, (.bipush 7, 2)), (54, (.newarray .int, 2)), (56, (.putfield 29, 3)), (59, (.aload_n 0, 1)), (60, (.bipush 14, 2)), (62, (.newarray .int, 2))], [(64, (.putfield 32, 3)), (67, (.aload_n 0, 1)), (68, (.bipush 14, 2)), (70, (.newarray .int, 2)), (72, (.putfield 35, 3)), (75, (.aload_n 0, 1)), (76, (.bipush 7, 2)), (78, (.newarray .int, 2))], [(80, (.putfield 38, 3)), (83, (.aload_n 0, 1)), (84, (.bipush 39, 2)), (86, (.newarray .int, 2)), (88, (.putfield 41, 3)), (91, (.aload_n 0, 1)), (92, (.sipush 312, 3)), (95, (.newarray .int, 2))], [(97, (.putfield 44, 3)), (100, (.aload_n 0, 1)), (101, (.bipush 78, 2)), (103, (.newarray .int, 2)), (105, (.putfield 47, 3)), (108, (.aload_n 0, 1)), (109, (.bipush 39, 2)), (111, (.newarray .int, 2))], [(113, (.putfield 50, 3)), (116, (.aload_n 0, 1)), (117, (.bipush 7, 2)), (119, (.newarray .int, 2)), (121, (.putfield 53, 3)), (124, (.aload_n 0, 1)), (125, (.bipush 7, 2)), (127, (.newarray .int, 2))], [(129, (.putfield 56, 3)), (132, (.aload_n 0, 1)), (133, (.bipush 7, 2)), (135, (.newarray .boolean, 2)), (137, (.putfield 59, 3)), (140, (.aload_n 0, 1)), (141, (.bipush 7, 2)), (143, (.newarray .int, 2))], [(145, (.putfield 63, 3)), (148, (.aload_n 0, 1)), (149, (.bipush 7, 2)), (151, (.newarray .int, 2)), (153, (.putfield 66, 3)), (156, (.aload_n 0, 1)), (157, (.bipush 6, 2)), (159, (.newarray .int, 2))], [(161, (.putfield 69, 3)), (164, (.aload_n 0, 1)), (165, (.bipush 6, 2)), (167, (.newarray .int, 2)), (169, (.putfield 72, 3)), (172, (.aload_n 0, 1)), (173, (.invokevirtual 75, 3))], [(176, (.aload_n 0, 1)), (177, (.invokevirtual 78, 3)), (180, (.return_, 1))]]
/-- Model.in (III)Z -/
def jc123 : jCode := [[(0, (.iload_n 0, 1)), (1, (.iload_n 1, 1)), (2, (.if_icmp .lt 12, 3)), (5, (.iload_n 0, 1)), (6, (.iload_n 2, 1)), (7, (.if_icmp .gt 7, 3)), (10, (.iconst 1, 1)), (11, (.goto 4, 3)), (14, (.iconst 0, 1)), (15, (.ireturn, 1))]]
/-- Model.write (I)I -/
def jc124 : jCode := [[(0, (.iload_n 1, 1)), (1, (.bipush 32, 2)), (3, (.bipush 126, 2)), (5, (.invokestatic 81, 3)), (8, (.ifCond .ne 5, 3)), (11, (.iconst (-1), 1)), (12, (.ireturn, 1)), (13, (.aload_n 0, 1)), (14, (.getfield 85, 3))], [(17, (.sipush 200, 3)), (20, (.if_icmp .ne 6, 3)), (23, (.bipush (-3), 2)), (25, (.ireturn, 1)), (26, (.aload_n 0, 1)), (27, (.getfield 7, 3)), (30, (.aload_n 0, 1)), (31, (.getfield 85, 3))], [(34, (.iload_n 1, 1)), (35, (.i2b, 1)), (36, (.bastore, 1)), (37, (.aload_n 0, 1)), (38, (.dup, 1)), (39, (.getfield 85, 3)), (42, (.iconst 1, 1)), (43, (.iadd, 1)), (44, (.putfield 85, 3)), (47, (.aload_n 0, 1))], [(48, (.getfield 85, 3)), (51, (.ireturn, 1))]]
/-- Model.wipe ()I -/
def jc125 : jCode := [[(0, (.aload_n 0, 1)), (1, (.getfield 85, 3)), (4, (.istore_n 1, 1)), (5, (.aload_n 0, 1)), (6, (.iconst 0, 1)), (7, (.putfield 85, 3)), (10, (.iload_n 1, 1)), (11, (.ireturn, 1))]]
/-- Model.here ()I -/
def jc126 : jCode := [[(0, (.aload_n 0, 1)), (1, (.getfield 89, 3)), (4, (.aload_n 0, 1)), (5, (.getfield 85, 3)), (8, (.if_icmp .ge 15, 3)), (11, (.aload_n 0, 1)), (12, (.getfield 7, 3)), (15, (.aload_n 0, 1))], [(16, (.getfield 89, 3)), (19, (.baload, 1)), (20, (.goto 5, 3)), (23, (.bipush (-4), 2)), (25, (.ireturn, 1))]]
/-- Model.isFigure ()Z -/
def jc127 : jCode := [[(0, (.aload_n 0, 1)), (1, (.invokevirtual 92, 3)), (4, (.bipush 48, 2)), (6, (.bipush 57, 2)), (8, (.invokestatic 81, 3)), (11, (.ireturn, 1))]]
/-- Model.due (I)V -/
def jc128 : jCode := [[(0, (.aload_n 0, 1)), (1, (.aload_n 0, 1)), (2, (.getfield 96, 3)), (5, (.ifCond .ne 11, 3)), (8, (.aload_n 0, 1)), (9, (.invokevirtual 92, 3)), (12, (.iload_n 1, 1)), (13, (.if_icmp .eq 7, 3))], [(16, (.iconst 1, 1)), (17, (.goto 4, 3)), (20, (.iconst 0, 1)), (21, (.putfield 96, 3)), (24, (.aload_n 0, 1)), (25, (.dup, 1)), (26, (.getfield 89, 3)), (29, (.iconst 1, 1)), (30, (.iadd, 1)), (31, (.putfield 89, 3))], [(34, (.return_, 1))]]
/-- Model.number (II)I -/
def jc129 : jCode := [[(0, (.bipush (-4), 2)), (2, (.istore_n 3, 1)), (3, (.iconst 0, 1)), (4, (.istore 4, 2)), (6, (.iload 4, 2)), (8, (.iconst 2, 1)), (9, (.if_icmp .ge 49, 3)), (12, (.aload_n 0, 1)), (13, (.invokevirtual 100, 3))], [(16, (.ifCond .eq 42, 3)), (19, (.iload_n 3, 1)), (20, (.bipush (-4), 2)), (22, (.if_icmp .ne 7, 3)), (25, (.iconst 0, 1)), (26, (.goto 7, 3)), (29, (.bipush 10, 2)), (31, (.iload_n 3, 1))], [(32, (.imul, 1)), (33, (.aload_n 0, 1)), (34, (.invokevirtual 92, 3)), (37, (.iadd, 1)), (38, (.bipush 48, 2)), (40, (.isub, 1)), (41, (.istore_n 3, 1)), (42, (.aload_n 0, 1)), (43, (.dup, 1)), (44, (.getfield 89, 3)), (47, (.iconst 1, 1))], [(48, (.iadd, 1)), (49, (.putfield 89, 3)), (52, (.iinc 4 1, 3)), (55, (.goto (-49), 3)), (58, (.aload_n 0, 1)), (59, (.aload_n 0, 1)), (60, (.getfield 96, 3)), (63, (.ifCond .ne 12, 3))], [(66, (.iload_n 3, 1)), (67, (.iload_n 1, 1)), (68, (.iload_n 2, 1)), (69, (.invokestatic 81, 3)), (72, (.ifCond .ne 7, 3)), (75, (.iconst 1, 1)), (76, (.goto 4, 3)), (79, (.iconst 0, 1))], [(80, (.putfield 96, 3)), (83, (.iload_n 3, 1)), (84, (.ireturn, 1))]]
/-- Model.readScene ()V -/
def jc130 : jCode := [[(0, (.bipush 7, 2)), (2, (.aload_n 0, 1)), (3, (.getfield 13, 3)), (6, (.iconst 1, 1)), (7, (.iaload, 1)), (8, (.iadd, 1)), (9, (.istore_n 1, 1)), (10, (.aload_n 0, 1)), (11, (.getfield 13, 3)), (14, (.iconst 1, 1)), (15, (.iaload, 1))], [(16, (.bipush 7, 2)), (18, (.if_icmp .ne 9, 3)), (21, (.aload_n 0, 1)), (22, (.iconst 1, 1)), (23, (.putfield 96, 3)), (26, (.return_, 1)), (27, (.aload_n 0, 1)), (28, (.getfield 17, 3)), (31, (.iload_n 1, 1))], [(32, (.aload_n 0, 1)), (33, (.iconst 0, 1)), (34, (.iconst 3, 1)), (35, (.invokevirtual 104, 3)), (38, (.iastore, 1)), (39, (.aload_n 0, 1)), (40, (.bipush 44, 2)), (42, (.invokevirtual 108, 3)), (45, (.aload_n 0, 1)), (46, (.getfield 20, 3))], [(49, (.iload_n 1, 1)), (50, (.aload_n 0, 1)), (51, (.iconst 1, 1)), (52, (.bipush 20, 2)), (54, (.invokevirtual 104, 3)), (57, (.iastore, 1)), (58, (.aload_n 0, 1)), (59, (.bipush 44, 2)), (61, (.invokevirtual 108, 3))], [(64, (.aload_n 0, 1)), (65, (.getfield 23, 3)), (68, (.iload_n 1, 1)), (69, (.aload_n 0, 1)), (70, (.iconst 0, 1)), (71, (.bipush 8, 2)), (73, (.invokevirtual 104, 3)), (76, (.iastore, 1)), (77, (.aload_n 0, 1)), (78, (.getfield 13, 3))], [(81, (.iconst 1, 1)), (82, (.dup2, 1)), (83, (.iaload, 1)), (84, (.iconst 1, 1)), (85, (.iadd, 1)), (86, (.iastore, 1)), (87, (.return_, 1))]]
/-- Model.readSeat ()V -/
def jc131 : jCode := [[(0, (.aload_n 0, 1)), (1, (.getfield 26, 3)), (4, (.iconst 1, 1)), (5, (.iaload, 1)), (6, (.bipush 7, 2)), (8, (.if_icmp .ne 9, 3)), (11, (.aload_n 0, 1)), (12, (.iconst 1, 1)), (13, (.putfield 96, 3))], [(16, (.return_, 1)), (17, (.aload_n 0, 1)), (18, (.getfield 29, 3)), (21, (.aload_n 0, 1)), (22, (.getfield 26, 3)), (25, (.iconst 1, 1)), (26, (.iaload, 1)), (27, (.aload_n 0, 1)), (28, (.iconst 0, 1)), (29, (.iconst 3, 1)), (30, (.invokevirtual 104, 3))], [(33, (.iastore, 1)), (34, (.aload_n 0, 1)), (35, (.bipush 44, 2)), (37, (.invokevirtual 108, 3)), (40, (.aload_n 0, 1)), (41, (.getfield 32, 3)), (44, (.bipush 7, 2)), (46, (.aload_n 0, 1)), (47, (.getfield 26, 3))], [(50, (.iconst 1, 1)), (51, (.iaload, 1)), (52, (.iadd, 1)), (53, (.aload_n 0, 1)), (54, (.iconst 0, 1)), (55, (.iconst 3, 1)), (56, (.invokevirtual 104, 3)), (59, (.iastore, 1)), (60, (.aload_n 0, 1)), (61, (.bipush 44, 2)), (63, (.invokevirtual 108, 3))], [(66, (.aload_n 0, 1)), (67, (.getfield 35, 3)), (70, (.bipush 7, 2)), (72, (.aload_n 0, 1)), (73, (.getfield 26, 3)), (76, (.iconst 1, 1)), (77, (.iaload, 1)), (78, (.iadd, 1)), (79, (.aload_n 0, 1))], [(80, (.iconst 0, 1)), (81, (.bipush 30, 2)), (83, (.invokevirtual 104, 3)), (86, (.iastore, 1)), (87, (.aload_n 0, 1)), (88, (.getfield 26, 3)), (91, (.iconst 1, 1)), (92, (.dup2, 1)), (93, (.iaload, 1)), (94, (.iconst 1, 1)), (95, (.iadd, 1))], [(96, (.iastore, 1)), (97, (.return_, 1))]]
/-- Model.readBill ()V -/
def jc132 : jCode := [[(0, (.iconst 0, 1)), (1, (.istore_n 1, 1)), (2, (.aload_n 0, 1)), (3, (.iconst 0, 1)), (4, (.putfield 112, 3)), (7, (.aload_n 0, 1)), (8, (.invokevirtual 100, 3)), (11, (.ifCond .eq 92, 3)), (14, (.aload_n 0, 1)), (15, (.getfield 96, 3))], [(18, (.ifCond .ne 85, 3)), (21, (.aload_n 0, 1)), (22, (.invokevirtual 92, 3)), (25, (.bipush 48, 2)), (27, (.isub, 1)), (28, (.istore_n 2, 1)), (29, (.aload_n 0, 1)), (30, (.iload_n 2, 1)), (31, (.aload_n 0, 1))], [(32, (.getfield 13, 3)), (35, (.iconst 1, 1)), (36, (.iaload, 1)), (37, (.if_icmp .ge 12, 3)), (40, (.iload_n 1, 1)), (41, (.iload_n 2, 1)), (42, (.ishr, 1)), (43, (.iconst 1, 1)), (44, (.iand, 1)), (45, (.iconst 1, 1)), (46, (.if_icmp .ne 7, 3))], [(49, (.iconst 1, 1)), (50, (.goto 4, 3)), (53, (.iconst 0, 1)), (54, (.putfield 96, 3)), (57, (.aload_n 0, 1)), (58, (.getfield 96, 3)), (61, (.ifCond .ne 39, 3))], [(64, (.iload_n 1, 1)), (65, (.iconst 1, 1)), (66, (.iload_n 2, 1)), (67, (.ishl, 1)), (68, (.ior, 1)), (69, (.istore_n 1, 1)), (70, (.aload_n 0, 1)), (71, (.getfield 38, 3)), (74, (.aload_n 0, 1)), (75, (.getfield 112, 3)), (78, (.iload_n 2, 1)), (79, (.iastore, 1))], [(80, (.aload_n 0, 1)), (81, (.dup, 1)), (82, (.getfield 112, 3)), (85, (.iconst 1, 1)), (86, (.iadd, 1)), (87, (.putfield 112, 3)), (90, (.aload_n 0, 1)), (91, (.dup, 1)), (92, (.getfield 89, 3)), (95, (.iconst 1, 1))], [(96, (.iadd, 1)), (97, (.putfield 89, 3)), (100, (.goto (-93), 3)), (103, (.aload_n 0, 1)), (104, (.aload_n 0, 1)), (105, (.getfield 96, 3)), (108, (.ifCond .ne 10, 3)), (111, (.aload_n 0, 1))], [(112, (.getfield 112, 3)), (115, (.ifCond .ne 7, 3)), (118, (.iconst 1, 1)), (119, (.goto 4, 3)), (122, (.iconst 0, 1)), (123, (.putfield 96, 3)), (126, (.return_, 1))]]
/-- Model.readItem ()V -/
def jc133 : jCode := [[(0, (.aload_n 0, 1)), (1, (.invokevirtual 92, 3)), (4, (.istore_n 1, 1)), (5, (.aload_n 0, 1)), (6, (.dup, 1)), (7, (.getfield 89, 3)), (10, (.iconst 1, 1)), (11, (.iadd, 1)), (12, (.putfield 89, 3)), (15, (.iload_n 1, 1))], [(16, (.lookupswitch 79 #[(98, 58), (103, 65), (104, 51), (115, 44)], 44))], [], [(60, (.aload_n 0, 1)), (61, (.invokevirtual 115, 3))], [(64, (.goto 36, 3)), (67, (.aload_n 0, 1)), (68, (.invokevirtual 118, 3)), (71, (.goto 29, 3)), (74, (.aload_n 0, 1)), (75, (.invokevirtual 121, 3)), (78, (.goto 22, 3))], [(81, (.aload_n 0, 1)), (82, (.aload_n 0, 1)), (83, (.iconst 0, 1)), (84, (.bipush 99, 2)), (86, (.invokevirtual 104, 3)), (89, (.putfield 124, 3)), (92, (.goto 8, 3)), (95, (.aload_n 0, 1))], [(96, (.iconst 1, 1)), (97, (.putfield 96, 3)), (100, (.aload_n 0, 1)), (101, (.bipush 59, 2)), (103, (.invokevirtual 108, 3)), (106, (.return_, 1))]]
/-- Model.read ()I -/
def jc134 : jCode := [[(0, (.aload_n 0, 1)), (1, (.iconst 0, 1)), (2, (.putfield 89, 3)), (5, (.aload_n 0, 1)), (6, (.iconst 0, 1)), (7, (.putfield 96, 3)), (10, (.aload_n 0, 1)), (11, (.getfield 13, 3)), (14, (.iconst 1, 1)), (15, (.iconst 0, 1))], [(16, (.iastore, 1)), (17, (.aload_n 0, 1)), (18, (.getfield 26, 3)), (21, (.iconst 1, 1)), (22, (.iconst 0, 1)), (23, (.iastore, 1)), (24, (.aload_n 0, 1)), (25, (.iconst 0, 1)), (26, (.putfield 112, 3)), (29, (.aload_n 0, 1)), (30, (.bipush 20, 2))], [(32, (.putfield 124, 3)), (35, (.aload_n 0, 1)), (36, (.getfield 89, 3)), (39, (.aload_n 0, 1)), (40, (.getfield 85, 3)), (43, (.if_icmp .ge 24, 3)), (46, (.aload_n 0, 1)), (47, (.getfield 89, 3))], [(50, (.istore_n 1, 1)), (51, (.aload_n 0, 1)), (52, (.invokevirtual 127, 3)), (55, (.aload_n 0, 1)), (56, (.getfield 96, 3)), (59, (.ifCond .eq 5, 3)), (62, (.iload_n 1, 1)), (63, (.ireturn, 1))], [(64, (.goto (-29), 3)), (67, (.bipush (-4), 2)), (69, (.ireturn, 1))]]
/-- Model.fault ()I -/
def jc135 : jCode := [[(0, (.aload_n 0, 1)), (1, (.invokevirtual 130, 3)), (4, (.ireturn, 1))]]
/-- Model.tellScene (III)V -/
def jc136 : jCode := [[(0, (.aload_n 0, 1)), (1, (.getfield 17, 3)), (4, (.bipush 7, 2)), (6, (.aload_n 0, 1)), (7, (.getfield 13, 3)), (10, (.iconst 1, 1)), (11, (.iaload, 1)), (12, (.iadd, 1)), (13, (.iload_n 1, 1)), (14, (.iastore, 1)), (15, (.aload_n 0, 1))], [(16, (.getfield 20, 3)), (19, (.bipush 7, 2)), (21, (.aload_n 0, 1)), (22, (.getfield 13, 3)), (25, (.iconst 1, 1)), (26, (.iaload, 1)), (27, (.iadd, 1)), (28, (.iload_n 2, 1)), (29, (.iastore, 1)), (30, (.aload_n 0, 1)), (31, (.getfield 23, 3))], [(34, (.bipush 7, 2)), (36, (.aload_n 0, 1)), (37, (.getfield 13, 3)), (40, (.iconst 1, 1)), (41, (.iaload, 1)), (42, (.iadd, 1)), (43, (.iload_n 3, 1)), (44, (.iastore, 1)), (45, (.aload_n 0, 1)), (46, (.getfield 13, 3))], [(49, (.iconst 1, 1)), (50, (.dup2, 1)), (51, (.iaload, 1)), (52, (.iconst 1, 1)), (53, (.iadd, 1)), (54, (.iastore, 1)), (55, (.return_, 1))]]
/-- Model.chair (III)V -/
def jc137 : jCode := [[(0, (.aload_n 0, 1)), (1, (.getfield 29, 3)), (4, (.aload_n 0, 1)), (5, (.getfield 26, 3)), (8, (.iconst 1, 1)), (9, (.iaload, 1)), (10, (.iload_n 1, 1)), (11, (.iastore, 1)), (12, (.aload_n 0, 1)), (13, (.getfield 32, 3))], [(16, (.bipush 7, 2)), (18, (.aload_n 0, 1)), (19, (.getfield 26, 3)), (22, (.iconst 1, 1)), (23, (.iaload, 1)), (24, (.iadd, 1)), (25, (.iload_n 2, 1)), (26, (.iastore, 1)), (27, (.aload_n 0, 1)), (28, (.getfield 35, 3)), (31, (.bipush 7, 2))], [(33, (.aload_n 0, 1)), (34, (.getfield 26, 3)), (37, (.iconst 1, 1)), (38, (.iaload, 1)), (39, (.iadd, 1)), (40, (.iload_n 3, 1)), (41, (.iastore, 1)), (42, (.aload_n 0, 1)), (43, (.getfield 26, 3)), (46, (.iconst 1, 1)), (47, (.dup2, 1))], [(48, (.iaload, 1)), (49, (.iconst 1, 1)), (50, (.iadd, 1)), (51, (.iastore, 1)), (52, (.return_, 1))]]
/-- Model.onBill (I)V -/
def jc138 : jCode := [[(0, (.aload_n 0, 1)), (1, (.getfield 38, 3)), (4, (.aload_n 0, 1)), (5, (.getfield 112, 3)), (8, (.iload_n 1, 1)), (9, (.iastore, 1)), (10, (.aload_n 0, 1)), (11, (.dup, 1)), (12, (.getfield 112, 3)), (15, (.iconst 1, 1))], [(16, (.iadd, 1)), (17, (.putfield 112, 3)), (20, (.return_, 1))]]
/-- Model.first ()V -/
def jc139 : jCode := [[(0, (.aload_n 0, 1)), (1, (.iconst 0, 1)), (2, (.bipush 8, 2)), (4, (.iconst 0, 1)), (5, (.invokevirtual 133, 3)), (8, (.aload_n 0, 1)), (9, (.iconst 2, 1)), (10, (.bipush 6, 2)), (12, (.iconst 1, 1)), (13, (.invokevirtual 133, 3))], [(16, (.aload_n 0, 1)), (17, (.iconst 1, 1)), (18, (.iconst 4, 1)), (19, (.bipush 8, 2)), (21, (.invokevirtual 133, 3)), (24, (.aload_n 0, 1)), (25, (.iconst 3, 1)), (26, (.bipush 12, 2)), (28, (.iconst 2, 1)), (29, (.invokevirtual 133, 3))], [(32, (.aload_n 0, 1)), (33, (.iconst 0, 1)), (34, (.bipush 10, 2)), (36, (.iconst 3, 1)), (37, (.invokevirtual 133, 3)), (40, (.aload_n 0, 1)), (41, (.iconst 0, 1)), (42, (.iconst 2, 1)), (43, (.bipush 9, 2)), (45, (.invokevirtual 137, 3))], [(48, (.aload_n 0, 1)), (49, (.iconst 1, 1)), (50, (.iconst 0, 1)), (51, (.bipush 6, 2)), (53, (.invokevirtual 137, 3)), (56, (.aload_n 0, 1)), (57, (.iconst 0, 1)), (58, (.iconst 1, 1)), (59, (.bipush 14, 2)), (61, (.invokevirtual 137, 3))], [(64, (.aload_n 0, 1)), (65, (.iconst 2, 1)), (66, (.iconst 3, 1)), (67, (.bipush 20, 2)), (69, (.invokevirtual 137, 3)), (72, (.aload_n 0, 1)), (73, (.iconst 0, 1)), (74, (.iconst 0, 1)), (75, (.iconst 5, 1)), (76, (.invokevirtual 137, 3)), (79, (.aload_n 0, 1))], [(80, (.iconst 0, 1)), (81, (.iconst 2, 1)), (82, (.bipush 11, 2)), (84, (.invokevirtual 137, 3)), (87, (.aload_n 0, 1)), (88, (.iconst 0, 1)), (89, (.invokevirtual 140, 3)), (92, (.aload_n 0, 1)), (93, (.iconst 1, 1)), (94, (.invokevirtual 140, 3))], [(97, (.aload_n 0, 1)), (98, (.iconst 4, 1)), (99, (.invokevirtual 140, 3)), (102, (.aload_n 0, 1)), (103, (.iconst 2, 1)), (104, (.invokevirtual 140, 3)), (107, (.aload_n 0, 1)), (108, (.iconst 3, 1)), (109, (.invokevirtual 140, 3))], [(112, (.aload_n 0, 1)), (113, (.bipush 25, 2)), (115, (.putfield 124, 3)), (118, (.return_, 1))]]
/-- Model.takeDraft ()V -/
def jc140 : jCode := [[(0, (.aload_n 0, 1)), (1, (.getfield 13, 3)), (4, (.iconst 0, 1)), (5, (.aload_n 0, 1)), (6, (.getfield 13, 3)), (9, (.iconst 1, 1)), (10, (.iaload, 1)), (11, (.iastore, 1)), (12, (.aload_n 0, 1)), (13, (.getfield 26, 3))], [(16, (.iconst 0, 1)), (17, (.aload_n 0, 1)), (18, (.getfield 26, 3)), (21, (.iconst 1, 1)), (22, (.iaload, 1)), (23, (.iastore, 1)), (24, (.iconst 0, 1)), (25, (.istore_n 1, 1)), (26, (.iload_n 1, 1)), (27, (.bipush 39, 2)), (29, (.if_icmp .ge 16, 3))], [(32, (.aload_n 0, 1)), (33, (.getfield 41, 3)), (36, (.iload_n 1, 1)), (37, (.iconst 0, 1)), (38, (.iastore, 1)), (39, (.iinc 1 1, 3)), (42, (.goto (-16), 3)), (45, (.iconst 0, 1)), (46, (.istore_n 1, 1)), (47, (.iload_n 1, 1))], [(48, (.bipush 7, 2)), (50, (.if_icmp .ge 80, 3)), (53, (.aload_n 0, 1)), (54, (.getfield 17, 3)), (57, (.iload_n 1, 1)), (58, (.aload_n 0, 1)), (59, (.getfield 17, 3)), (62, (.bipush 7, 2))], [(64, (.iload_n 1, 1)), (65, (.iadd, 1)), (66, (.iaload, 1)), (67, (.iastore, 1)), (68, (.aload_n 0, 1)), (69, (.getfield 20, 3)), (72, (.iload_n 1, 1)), (73, (.aload_n 0, 1)), (74, (.getfield 20, 3)), (77, (.bipush 7, 2)), (79, (.iload_n 1, 1))], [(80, (.iadd, 1)), (81, (.iaload, 1)), (82, (.iastore, 1)), (83, (.aload_n 0, 1)), (84, (.getfield 23, 3)), (87, (.iload_n 1, 1)), (88, (.aload_n 0, 1)), (89, (.getfield 23, 3)), (92, (.bipush 7, 2)), (94, (.iload_n 1, 1)), (95, (.iadd, 1))], [(96, (.iaload, 1)), (97, (.iastore, 1)), (98, (.aload_n 0, 1)), (99, (.getfield 41, 3)), (102, (.iconst 0, 1)), (103, (.iload_n 1, 1)), (104, (.iadd, 1)), (105, (.iload_n 1, 1)), (106, (.aload_n 0, 1)), (107, (.getfield 112, 3)), (110, (.if_icmp .ge 12, 3))], [(113, (.aload_n 0, 1)), (114, (.getfield 38, 3)), (117, (.iload_n 1, 1)), (118, (.iaload, 1)), (119, (.goto 4, 3)), (122, (.iconst 0, 1)), (123, (.iastore, 1)), (124, (.iinc 1 1, 3)), (127, (.goto (-80), 3))], [(130, (.iconst 0, 1)), (131, (.istore_n 1, 1)), (132, (.iload_n 1, 1)), (133, (.bipush 7, 2)), (135, (.if_icmp .ge 64, 3)), (138, (.aload_n 0, 1)), (139, (.getfield 32, 3)), (142, (.iload_n 1, 1)), (143, (.aload_n 0, 1))], [(144, (.getfield 32, 3)), (147, (.bipush 7, 2)), (149, (.iload_n 1, 1)), (150, (.iadd, 1)), (151, (.iaload, 1)), (152, (.iastore, 1)), (153, (.aload_n 0, 1)), (154, (.getfield 35, 3)), (157, (.iload_n 1, 1)), (158, (.aload_n 0, 1)), (159, (.getfield 35, 3))], [(162, (.bipush 7, 2)), (164, (.iload_n 1, 1)), (165, (.iadd, 1)), (166, (.iaload, 1)), (167, (.iastore, 1)), (168, (.aload_n 0, 1)), (169, (.getfield 41, 3)), (172, (.bipush 11, 2)), (174, (.iload_n 1, 1)), (175, (.iadd, 1))], [(176, (.aload_n 0, 1)), (177, (.getfield 29, 3)), (180, (.iload_n 1, 1)), (181, (.iaload, 1)), (182, (.iastore, 1)), (183, (.aload_n 0, 1)), (184, (.getfield 41, 3)), (187, (.bipush 18, 2)), (189, (.iload_n 1, 1)), (190, (.iadd, 1)), (191, (.iload_n 1, 1))], [(192, (.iastore, 1)), (193, (.iinc 1 1, 3)), (196, (.goto (-64), 3)), (199, (.aload_n 0, 1)), (200, (.getfield 41, 3)), (203, (.bipush 7, 2)), (205, (.aload_n 0, 1)), (206, (.getfield 112, 3))], [(209, (.iastore, 1)), (210, (.aload_n 0, 1)), (211, (.getfield 41, 3)), (214, (.bipush 8, 2)), (216, (.aload_n 0, 1)), (217, (.getfield 124, 3)), (220, (.iastore, 1)), (221, (.aload_n 0, 1)), (222, (.iconst 0, 1)), (223, (.putfield 143, 3))], [(226, (.aload_n 0, 1)), (227, (.iconst 0, 1)), (228, (.putfield 146, 3)), (231, (.aload_n 0, 1)), (232, (.iconst 0, 1)), (233, (.putfield 149, 3)), (236, (.return_, 1))]]
/-- Model.lay ()I -/
def jc141 : jCode := [[(0, (.aload_n 0, 1)), (1, (.invokevirtual 130, 3)), (4, (.bipush (-4), 2)), (6, (.if_icmp .ne 21, 3)), (9, (.aload_n 0, 1)), (10, (.getfield 13, 3)), (13, (.iconst 1, 1)), (14, (.iaload, 1)), (15, (.ifCond .eq 12, 3))], [(18, (.aload_n 0, 1)), (19, (.getfield 26, 3)), (22, (.iconst 1, 1)), (23, (.iaload, 1)), (24, (.ifCond .ne 6, 3)), (27, (.bipush (-2), 2)), (29, (.ireturn, 1)), (30, (.aload_n 0, 1)), (31, (.invokevirtual 78, 3))], [(34, (.aload_n 0, 1)), (35, (.getfield 26, 3)), (38, (.iconst 0, 1)), (39, (.iaload, 1)), (40, (.ireturn, 1))]]
/-- Model.take ()V -/
def jc142 : jCode := [[(0, (.iconst 0, 1)), (1, (.istore_n 1, 1)), (2, (.iload_n 1, 1)), (3, (.bipush 39, 2)), (5, (.if_icmp .ge 21, 3)), (8, (.aload_n 0, 1)), (9, (.getfield 50, 3)), (12, (.iload_n 1, 1)), (13, (.aload_n 0, 1)), (14, (.getfield 41, 3))], [(17, (.iload_n 1, 1)), (18, (.iaload, 1)), (19, (.iastore, 1)), (20, (.iinc 1 1, 3)), (23, (.goto (-21), 3)), (26, (.return_, 1))]]
/-- Model.isScene (I)Z -/
def jc143 : jCode := [[(0, (.iload_n 1, 1)), (1, (.iconst 0, 1)), (2, (.aload_n 0, 1)), (3, (.getfield 13, 3)), (6, (.iconst 0, 1)), (7, (.iaload, 1)), (8, (.iconst 1, 1)), (9, (.isub, 1)), (10, (.invokestatic 81, 3)), (13, (.ireturn, 1))]]
/-- Model.isSeat (I)Z -/
def jc144 : jCode := [[(0, (.iload_n 1, 1)), (1, (.iconst 0, 1)), (2, (.aload_n 0, 1)), (3, (.getfield 26, 3)), (6, (.iconst 0, 1)), (7, (.iaload, 1)), (8, (.iconst 1, 1)), (9, (.isub, 1)), (10, (.invokestatic 81, 3)), (13, (.ireturn, 1))]]
/-- Model.placeOn ([II)I -/
def jc145 : jCode := [[(0, (.bipush (-4), 2)), (2, (.istore_n 2, 1)), (3, (.iconst 0, 1)), (4, (.istore_n 3, 1)), (5, (.iload_n 3, 1)), (6, (.aload_n 0, 1)), (7, (.bipush 7, 2)), (9, (.iaload, 1)), (10, (.if_icmp .ge 24, 3)), (13, (.aload_n 0, 1)), (14, (.iconst 0, 1)), (15, (.iload_n 3, 1))], [(16, (.iadd, 1)), (17, (.iaload, 1)), (18, (.iload_n 1, 1)), (19, (.if_icmp .ne 7, 3)), (22, (.iload_n 3, 1)), (23, (.goto 4, 3)), (26, (.iload_n 2, 1)), (27, (.istore_n 2, 1)), (28, (.iinc 3 1, 3)), (31, (.goto (-26), 3))], [(34, (.iload_n 2, 1)), (35, (.ireturn, 1))]]
/-- Model.placeIn ([II)I -/
def jc146 : jCode := [[(0, (.iconst 0, 1)), (1, (.istore_n 3, 1)), (2, (.aload_n 1, 1)), (3, (.bipush 18, 2)), (5, (.iload_n 3, 1)), (6, (.iadd, 1)), (7, (.iaload, 1)), (8, (.iload_n 2, 1)), (9, (.if_icmp .eq 9, 3)), (12, (.iinc 3 1, 3)), (15, (.goto (-13), 3))], [(18, (.iload_n 3, 1)), (19, (.ireturn, 1))]]
/-- Model.bitsOf (I)I -/
def jc147 : jCode := [[(0, (.iconst 0, 1)), (1, (.istore_n 1, 1)), (2, (.iconst 0, 1)), (3, (.istore_n 2, 1)), (4, (.iload_n 2, 1)), (5, (.bipush 8, 2)), (7, (.if_icmp .ge 17, 3)), (10, (.iload_n 1, 1)), (11, (.iload_n 0, 1)), (12, (.iload_n 2, 1)), (13, (.ishr, 1)), (14, (.iconst 1, 1)), (15, (.iand, 1))], [(16, (.iadd, 1)), (17, (.istore_n 1, 1)), (18, (.iinc 2 1, 3)), (21, (.goto (-17), 3)), (24, (.iload_n 1, 1)), (25, (.ireturn, 1))]]
/-- Model.claquesOf ([I)I -/
def jc148 : jCode := [[(0, (.iconst 0, 1)), (1, (.istore_n 2, 1)), (2, (.iconst 0, 1)), (3, (.istore_n 3, 1)), (4, (.iload_n 3, 1)), (5, (.aload_n 0, 1)), (6, (.getfield 26, 3)), (9, (.iconst 0, 1)), (10, (.iaload, 1)), (11, (.if_icmp .ge 27, 3)), (14, (.iload_n 2, 1)), (15, (.aload_n 1, 1))], [(16, (.bipush 11, 2)), (18, (.iload_n 3, 1)), (19, (.iadd, 1)), (20, (.iaload, 1)), (21, (.iconst 3, 1)), (22, (.if_icmp .ne 7, 3)), (25, (.iconst 1, 1)), (26, (.goto 4, 3)), (29, (.iconst 0, 1)), (30, (.iadd, 1)), (31, (.istore_n 2, 1))], [(32, (.iinc 3 1, 3)), (35, (.goto (-31), 3)), (38, (.iload_n 2, 1)), (39, (.ireturn, 1))]]
/-- Model.boundOf ([I)I -/
def jc149 : jCode := [[(0, (.iconst 0, 1)), (1, (.istore_n 2, 1)), (2, (.iconst 0, 1)), (3, (.istore_n 3, 1)), (4, (.iload_n 3, 1)), (5, (.aload_n 0, 1)), (6, (.getfield 26, 3)), (9, (.iconst 0, 1)), (10, (.iaload, 1)), (11, (.if_icmp .ge 21, 3)), (14, (.iload_n 2, 1)), (15, (.aload_n 1, 1))], [(16, (.bipush 25, 2)), (18, (.iload_n 3, 1)), (19, (.iadd, 1)), (20, (.iaload, 1)), (21, (.invokestatic 152, 3)), (24, (.iadd, 1)), (25, (.istore_n 2, 1)), (26, (.iinc 3 1, 3)), (29, (.goto (-25), 3))], [(32, (.iload_n 2, 1)), (33, (.ireturn, 1))]]
/-- Model.isGone ([II)Z -/
def jc150 : jCode := [[(0, (.iload_n 2, 1)), (1, (.iconst 0, 1)), (2, (.aload_n 0, 1)), (3, (.getfield 26, 3)), (6, (.iconst 0, 1)), (7, (.iaload, 1)), (8, (.iconst 1, 1)), (9, (.isub, 1)), (10, (.invokestatic 81, 3)), (13, (.ifCond .eq 23, 3))], [(16, (.aload_n 0, 1)), (17, (.getfield 53, 3)), (20, (.aload_n 1, 1)), (21, (.bipush 18, 2)), (23, (.iload_n 2, 1)), (24, (.iadd, 1)), (25, (.iaload, 1)), (26, (.iaload, 1)), (27, (.bipush (-4), 2)), (29, (.if_icmp .eq 7, 3))], [(32, (.iconst 1, 1)), (33, (.goto 4, 3)), (36, (.iconst 0, 1)), (37, (.ireturn, 1))]]
/-- Model.bore ([III)V -/
def jc151 : jCode := [[(0, (.aload_n 0, 1)), (1, (.getfield 20, 3)), (4, (.iload_n 3, 1)), (5, (.iaload, 1)), (6, (.iconst 2, 1)), (7, (.aload_n 1, 1)), (8, (.bipush 32, 2)), (10, (.iload_n 3, 1)), (11, (.iadd, 1)), (12, (.iaload, 1)), (13, (.iconst 3, 1)), (14, (.if_icmp .ge 12, 3))], [(17, (.aload_n 1, 1)), (18, (.bipush 32, 2)), (20, (.iload_n 3, 1)), (21, (.iadd, 1)), (22, (.iaload, 1)), (23, (.goto 4, 3)), (26, (.iconst 3, 1)), (27, (.imul, 1)), (28, (.iadd, 1)), (29, (.istore 4, 2)), (31, (.aload_n 0, 1))], [(32, (.getfield 17, 3)), (35, (.iload_n 3, 1)), (36, (.iaload, 1)), (37, (.aload_n 0, 1)), (38, (.getfield 32, 3)), (41, (.iload_n 2, 1)), (42, (.iaload, 1)), (43, (.if_icmp .ne 15, 3)), (46, (.aload_n 0, 1)), (47, (.getfield 20, 3))], [(50, (.iload_n 3, 1)), (51, (.iaload, 1)), (52, (.iconst 2, 1)), (53, (.idiv, 1)), (54, (.ineg, 1)), (55, (.goto 22, 3)), (58, (.aload_n 1, 1)), (59, (.bipush 11, 2)), (61, (.iload_n 2, 1)), (62, (.iadd, 1)), (63, (.iaload, 1))], [(64, (.iconst 2, 1)), (65, (.if_icmp .ne 10, 3)), (68, (.iconst 2, 1)), (69, (.iload 4, 2)), (71, (.imul, 1)), (72, (.goto 5, 3)), (75, (.iload 4, 2)), (77, (.istore 5, 2)), (79, (.aload_n 0, 1))], [(80, (.getfield 56, 3)), (83, (.iload_n 2, 1)), (84, (.aload_n 0, 1)), (85, (.getfield 56, 3)), (88, (.iload_n 2, 1)), (89, (.iaload, 1)), (90, (.iload 5, 2)), (92, (.iadd, 1)), (93, (.ifCond .ge 7, 3))], [(96, (.iconst 0, 1)), (97, (.goto 12, 3)), (100, (.aload_n 0, 1)), (101, (.getfield 56, 3)), (104, (.iload_n 2, 1)), (105, (.iaload, 1)), (106, (.iload 5, 2)), (108, (.iadd, 1)), (109, (.iastore, 1)), (110, (.return_, 1))]]
/-- Model.canLeave ([II)Z -/
def jc152 : jCode := [[(0, (.aload_n 1, 1)), (1, (.bipush 11, 2)), (3, (.iload_n 2, 1)), (4, (.iadd, 1)), (5, (.iaload, 1)), (6, (.ifCond .eq 13, 3)), (9, (.aload_n 1, 1)), (10, (.bipush 11, 2)), (12, (.iload_n 2, 1)), (13, (.iadd, 1)), (14, (.iaload, 1)), (15, (.iconst 2, 1))], [(16, (.if_icmp .ne 7, 3)), (19, (.iconst 1, 1)), (20, (.goto 4, 3)), (23, (.iconst 0, 1)), (24, (.ireturn, 1))]]
/-- Model.settle ([III)V -/
def jc153 : jCode := [[(0, (.aload_n 1, 1)), (1, (.bipush 18, 2)), (3, (.iload_n 2, 1)), (4, (.iadd, 1)), (5, (.iaload, 1)), (6, (.istore 4, 2)), (8, (.aload_n 0, 1)), (9, (.getfield 35, 3)), (12, (.iload 4, 2)), (14, (.iaload, 1)), (15, (.aload_n 0, 1))], [(16, (.aload_n 1, 1)), (17, (.iload_n 2, 1)), (18, (.iconst 1, 1)), (19, (.isub, 1)), (20, (.invokevirtual 156, 3)), (23, (.ifCond .eq 7, 3)), (26, (.iconst 3, 1)), (27, (.goto 4, 3)), (30, (.iconst 0, 1)), (31, (.isub, 1))], [(32, (.aload_n 0, 1)), (33, (.aload_n 1, 1)), (34, (.iload_n 2, 1)), (35, (.iconst 1, 1)), (36, (.iadd, 1)), (37, (.invokevirtual 156, 3)), (40, (.ifCond .eq 7, 3)), (43, (.iconst 3, 1)), (44, (.goto 4, 3)), (47, (.iconst 0, 1))], [(48, (.isub, 1)), (49, (.istore 5, 2)), (51, (.aload_n 0, 1)), (52, (.aload_n 1, 1)), (53, (.iload 4, 2)), (55, (.invokevirtual 160, 3)), (58, (.ifCond .eq 34, 3)), (61, (.aload_n 0, 1)), (62, (.getfield 56, 3))], [(65, (.iload 4, 2)), (67, (.iaload, 1)), (68, (.iload 5, 2)), (70, (.ifCond .ge 7, 3)), (73, (.iconst 0, 1)), (74, (.goto 5, 3)), (77, (.iload 5, 2)), (79, (.if_icmp .le 13, 3))], [(82, (.aload_n 0, 1)), (83, (.getfield 53, 3)), (86, (.iload 4, 2)), (88, (.iload_n 3, 1)), (89, (.iconst 1, 1)), (90, (.iadd, 1)), (91, (.iastore, 1)), (92, (.aload_n 0, 1)), (93, (.getfield 59, 3))], [(96, (.iload 4, 2)), (98, (.aload_n 1, 1)), (99, (.bipush 11, 2)), (101, (.iload 4, 2)), (103, (.iadd, 1)), (104, (.iaload, 1)), (105, (.iconst 1, 1)), (106, (.if_icmp .ne 24, 3)), (109, (.aload_n 0, 1)), (110, (.getfield 56, 3))], [(113, (.iload 4, 2)), (115, (.iaload, 1)), (116, (.aload_n 0, 1)), (117, (.getfield 35, 3)), (120, (.iload 4, 2)), (122, (.iaload, 1)), (123, (.if_icmp .le 7, 3)), (126, (.iconst 1, 1)), (127, (.goto 4, 3))], [(130, (.iconst 0, 1)), (131, (.bastore, 1)), (132, (.return_, 1))]]
/-- Model.go ([I)I -/
def jc154 : jCode := [[(0, (.iconst 0, 1)), (1, (.istore_n 2, 1)), (2, (.iload_n 2, 1)), (3, (.bipush 7, 2)), (5, (.if_icmp .ge 38, 3)), (8, (.aload_n 0, 1)), (9, (.getfield 53, 3)), (12, (.iload_n 2, 1)), (13, (.bipush (-4), 2)), (15, (.iastore, 1))], [(16, (.aload_n 0, 1)), (17, (.getfield 56, 3)), (20, (.iload_n 2, 1)), (21, (.iconst 0, 1)), (22, (.iastore, 1)), (23, (.aload_n 0, 1)), (24, (.getfield 59, 3)), (27, (.iload_n 2, 1)), (28, (.iconst 0, 1)), (29, (.bastore, 1)), (30, (.aload_n 0, 1)), (31, (.getfield 63, 3))], [(34, (.iload_n 2, 1)), (35, (.iconst 0, 1)), (36, (.iastore, 1)), (37, (.iinc 2 1, 3)), (40, (.goto (-38), 3)), (43, (.iconst 0, 1)), (44, (.istore_n 2, 1)), (45, (.iload_n 2, 1)), (46, (.aload_n 1, 1)), (47, (.bipush 7, 2))], [(49, (.iaload, 1)), (50, (.if_icmp .ge 182, 3)), (53, (.aload_n 1, 1)), (54, (.iconst 0, 1)), (55, (.iload_n 2, 1)), (56, (.iadd, 1)), (57, (.iaload, 1)), (58, (.istore_n 3, 1)), (59, (.iconst 0, 1)), (60, (.istore 4, 2)), (62, (.iload 4, 2))], [(64, (.aload_n 0, 1)), (65, (.getfield 26, 3)), (68, (.iconst 0, 1)), (69, (.iaload, 1)), (70, (.if_icmp .ge 48, 3)), (73, (.aload_n 0, 1)), (74, (.getfield 63, 3)), (77, (.iload 4, 2)), (79, (.dup2, 1))], [(80, (.iaload, 1)), (81, (.aload_n 0, 1)), (82, (.getfield 53, 3)), (85, (.iload 4, 2)), (87, (.iaload, 1)), (88, (.bipush (-4), 2)), (90, (.if_icmp .ne 19, 3)), (93, (.aload_n 0, 1)), (94, (.getfield 59, 3))], [(97, (.iload 4, 2)), (99, (.baload, 1)), (100, (.ifCond .ne 9, 3)), (103, (.iconst 1, 1)), (104, (.iload_n 2, 1)), (105, (.ishl, 1)), (106, (.goto 4, 3)), (109, (.iconst 0, 1)), (110, (.ior, 1)), (111, (.iastore, 1))], [(112, (.iinc 4 1, 3)), (115, (.goto (-53), 3)), (118, (.iconst 0, 1)), (119, (.istore 4, 2)), (121, (.iload 4, 2)), (123, (.aload_n 0, 1)), (124, (.getfield 26, 3)), (127, (.iconst 0, 1))], [(128, (.iaload, 1)), (129, (.if_icmp .ge 39, 3)), (132, (.iload_n 2, 1)), (133, (.ifCond .ne 35, 3)), (136, (.aload_n 0, 1)), (137, (.getfield 53, 3)), (140, (.iload 4, 2)), (142, (.aload_n 0, 1)), (143, (.getfield 163, 3))], [(146, (.iload 4, 2)), (148, (.ishr, 1)), (149, (.iconst 1, 1)), (150, (.iand, 1)), (151, (.iconst 1, 1)), (152, (.if_icmp .ne 7, 3)), (155, (.iconst 1, 1)), (156, (.goto 5, 3)), (159, (.bipush (-4), 2))], [(161, (.iastore, 1)), (162, (.iinc 4 1, 3)), (165, (.goto (-44), 3)), (168, (.iconst 0, 1)), (169, (.istore 4, 2)), (171, (.iload 4, 2)), (173, (.aload_n 0, 1)), (174, (.getfield 26, 3))], [(177, (.iconst 0, 1)), (178, (.iaload, 1)), (179, (.if_icmp .ge 47, 3)), (182, (.aload_n 0, 1)), (183, (.getfield 53, 3)), (186, (.aload_n 1, 1)), (187, (.bipush 18, 2)), (189, (.iload 4, 2)), (191, (.iadd, 1))], [(192, (.iaload, 1)), (193, (.iaload, 1)), (194, (.bipush (-4), 2)), (196, (.if_icmp .ne 24, 3)), (199, (.aload_n 0, 1)), (200, (.aload_n 1, 1)), (201, (.aload_n 1, 1)), (202, (.bipush 18, 2)), (204, (.iload 4, 2)), (206, (.iadd, 1)), (207, (.iaload, 1))], [(208, (.iload_n 3, 1)), (209, (.invokevirtual 166, 3)), (212, (.aload_n 0, 1)), (213, (.aload_n 1, 1)), (214, (.iload 4, 2)), (216, (.iload_n 2, 1)), (217, (.invokevirtual 170, 3)), (220, (.iinc 4 1, 3)), (223, (.goto (-52), 3))], [(226, (.iinc 2 1, 3)), (229, (.goto (-184), 3)), (232, (.iconst 0, 1)), (233, (.istore_n 2, 1)), (234, (.iconst 0, 1)), (235, (.istore_n 3, 1)), (236, (.iload_n 3, 1)), (237, (.aload_n 0, 1)), (238, (.getfield 26, 3))], [(241, (.iconst 0, 1)), (242, (.iaload, 1)), (243, (.if_icmp .ge 28, 3)), (246, (.iload_n 2, 1)), (247, (.aload_n 0, 1)), (248, (.getfield 53, 3)), (251, (.iload_n 3, 1)), (252, (.iaload, 1)), (253, (.bipush (-4), 2)), (255, (.if_icmp .ne 7, 3))], [(258, (.iconst 1, 1)), (259, (.goto 4, 3)), (262, (.iconst 0, 1)), (263, (.iadd, 1)), (264, (.istore_n 2, 1)), (265, (.iinc 3 1, 3)), (268, (.goto (-32), 3)), (271, (.iload_n 2, 1))], [(272, (.ireturn, 1))]]
/-- Model.doesPass ([I)Z -/
def jc155 : jCode := [[(0, (.aload_n 1, 1)), (1, (.bipush 7, 2)), (3, (.iaload, 1)), (4, (.ifCond .le 25, 3)), (7, (.iconst 3, 1)), (8, (.aload_n 0, 1)), (9, (.aload_n 1, 1)), (10, (.invokevirtual 173, 3)), (13, (.imul, 1)), (14, (.iconst 2, 1)), (15, (.aload_n 0, 1))], [(16, (.getfield 26, 3)), (19, (.iconst 0, 1)), (20, (.iaload, 1)), (21, (.imul, 1)), (22, (.if_icmp .lt 7, 3)), (25, (.iconst 1, 1)), (26, (.goto 4, 3)), (29, (.iconst 0, 1)), (30, (.ireturn, 1))]]
/-- Model.bind ([I)V -/
def jc156 : jCode := [[(0, (.iconst 0, 1)), (1, (.istore_n 2, 1)), (2, (.iload_n 2, 1)), (3, (.aload_n 1, 1)), (4, (.bipush 7, 2)), (6, (.iaload, 1)), (7, (.if_icmp .ge 148, 3)), (10, (.aload_n 1, 1)), (11, (.iconst 0, 1)), (12, (.iload_n 2, 1)), (13, (.iadd, 1)), (14, (.iaload, 1)), (15, (.istore_n 3, 1))], [(16, (.iconst 0, 1)), (17, (.istore 4, 2)), (19, (.iload 4, 2)), (21, (.aload_n 0, 1)), (22, (.getfield 26, 3)), (25, (.iconst 0, 1)), (26, (.iaload, 1)), (27, (.if_icmp .ge 122, 3)), (30, (.aload_n 0, 1)), (31, (.getfield 23, 3))], [(34, (.iload_n 3, 1)), (35, (.iaload, 1)), (36, (.bipush 8, 2)), (38, (.if_icmp .ge 111, 3)), (41, (.aload_n 0, 1)), (42, (.getfield 63, 3)), (45, (.iload 4, 2)), (47, (.iaload, 1))], [(48, (.iload_n 2, 1)), (49, (.ishr, 1)), (50, (.iconst 1, 1)), (51, (.iand, 1)), (52, (.iconst 1, 1)), (53, (.if_icmp .ne 28, 3)), (56, (.aload_n 0, 1)), (57, (.getfield 17, 3)), (60, (.iload_n 3, 1)), (61, (.iaload, 1)), (62, (.iconst 1, 1)), (63, (.if_icmp .ne 14, 3))], [(66, (.aload_n 0, 1)), (67, (.getfield 32, 3)), (70, (.iload 4, 2)), (72, (.iaload, 1)), (73, (.iconst 1, 1)), (74, (.if_icmp .ne 7, 3)), (77, (.iconst 1, 1)), (78, (.goto 4, 3))], [(81, (.iconst 0, 1)), (82, (.istore 5, 2)), (84, (.iload 5, 2)), (86, (.ifCond .eq 57, 3)), (89, (.aload_n 1, 1)), (90, (.bipush 25, 2)), (92, (.iload 4, 2)), (94, (.iadd, 1)), (95, (.aload_n 0, 1))], [(96, (.getfield 17, 3)), (99, (.iload_n 3, 1)), (100, (.iaload, 1)), (101, (.iconst 3, 1)), (102, (.if_icmp .ne 24, 3)), (105, (.aload_n 1, 1)), (106, (.bipush 25, 2)), (108, (.iload 4, 2)), (110, (.iadd, 1)), (111, (.iaload, 1))], [(112, (.iconst 1, 1)), (113, (.aload_n 0, 1)), (114, (.getfield 23, 3)), (117, (.iload_n 3, 1)), (118, (.iaload, 1)), (119, (.ishl, 1)), (120, (.iconst (-1), 1)), (121, (.ixor, 1)), (122, (.iand, 1)), (123, (.goto 19, 3)), (126, (.aload_n 1, 1)), (127, (.bipush 25, 2))], [(129, (.iload 4, 2)), (131, (.iadd, 1)), (132, (.iaload, 1)), (133, (.iconst 1, 1)), (134, (.aload_n 0, 1)), (135, (.getfield 23, 3)), (138, (.iload_n 3, 1)), (139, (.iaload, 1)), (140, (.ishl, 1)), (141, (.ior, 1)), (142, (.iastore, 1)), (143, (.iinc 4 1, 3))], [(146, (.goto (-127), 3)), (149, (.iinc 2 1, 3)), (152, (.goto (-150), 3)), (155, (.return_, 1))]]
/-- Model.canPlay ([I)Z -/
def jc157 : jCode := [[(0, (.aload_n 1, 1)), (1, (.bipush 7, 2)), (3, (.iaload, 1)), (4, (.ifCond .le 19, 3)), (7, (.aload_n 1, 1)), (8, (.bipush 8, 2)), (10, (.iaload, 1)), (11, (.aload_n 0, 1)), (12, (.aload_n 1, 1)), (13, (.invokevirtual 177, 3))], [(16, (.if_icmp .lt 7, 3)), (19, (.iconst 1, 1)), (20, (.goto 4, 3)), (23, (.iconst 0, 1)), (24, (.ireturn, 1))]]
/-- Model.playOn ([I)Z -/
def jc158 : jCode := [[(0, (.aload_n 0, 1)), (1, (.aload_n 1, 1)), (2, (.invokevirtual 180, 3)), (5, (.istore_n 2, 1)), (6, (.iload_n 2, 1)), (7, (.ifCond .eq 8, 3)), (10, (.aload_n 0, 1)), (11, (.aload_n 1, 1)), (12, (.invokevirtual 184, 3)), (15, (.aload_n 1, 1))], [(16, (.bipush 8, 2)), (18, (.iaload, 1)), (19, (.aload_n 0, 1)), (20, (.aload_n 1, 1)), (21, (.invokevirtual 177, 3)), (24, (.isub, 1)), (25, (.istore_n 3, 1)), (26, (.iconst 0, 1)), (27, (.istore 4, 2)), (29, (.iload 4, 2)), (31, (.aload_n 0, 1))], [(32, (.getfield 26, 3)), (35, (.iconst 0, 1)), (36, (.iaload, 1)), (37, (.if_icmp .ge 40, 3)), (40, (.iload_n 3, 1)), (41, (.aload_n 0, 1)), (42, (.getfield 53, 3)), (45, (.iload 4, 2)), (47, (.iaload, 1))], [(48, (.bipush (-4), 2)), (50, (.if_icmp .ne 18, 3)), (53, (.aload_n 1, 1)), (54, (.bipush 11, 2)), (56, (.iload 4, 2)), (58, (.iadd, 1)), (59, (.iaload, 1)), (60, (.iconst 3, 1)), (61, (.if_icmp .eq 7, 3))], [(64, (.iconst 1, 1)), (65, (.goto 4, 3)), (68, (.iconst 0, 1)), (69, (.iadd, 1)), (70, (.istore_n 3, 1)), (71, (.iinc 4 1, 3)), (74, (.goto (-45), 3)), (77, (.aload_n 1, 1)), (78, (.bipush 8, 2))], [(80, (.iload_n 3, 1)), (81, (.sipush 999, 3)), (84, (.if_icmp .le 9, 3)), (87, (.sipush 999, 3)), (90, (.goto 4, 3)), (93, (.iload_n 3, 1)), (94, (.iastore, 1)), (95, (.iconst 0, 1))], [(96, (.istore 4, 2)), (98, (.iload 4, 2)), (100, (.aload_n 1, 1)), (101, (.bipush 7, 2)), (103, (.iaload, 1)), (104, (.if_icmp .ge 24, 3)), (107, (.aload_n 1, 1)), (108, (.bipush 32, 2)), (110, (.aload_n 1, 1)), (111, (.iconst 0, 1))], [(112, (.iload 4, 2)), (114, (.iadd, 1)), (115, (.iaload, 1)), (116, (.iadd, 1)), (117, (.dup2, 1)), (118, (.iaload, 1)), (119, (.iconst 1, 1)), (120, (.iadd, 1)), (121, (.iastore, 1)), (122, (.iinc 4 1, 3)), (125, (.goto (-27), 3))], [(128, (.aload_n 1, 1)), (129, (.bipush 9, 2)), (131, (.dup2, 1)), (132, (.iaload, 1)), (133, (.iconst 1, 1)), (134, (.iadd, 1)), (135, (.iastore, 1)), (136, (.aload_n 1, 1)), (137, (.bipush 10, 2)), (139, (.dup2, 1)), (140, (.iaload, 1)), (141, (.iload_n 2, 1)), (142, (.ifCond .eq 7, 3))], [(145, (.iconst 1, 1)), (146, (.goto 4, 3)), (149, (.iconst 0, 1)), (150, (.iadd, 1)), (151, (.iastore, 1)), (152, (.iload_n 2, 1)), (153, (.ireturn, 1))]]
/-- Model.scene (II)I -/
def jc159 : jCode := [[(0, (.aload_n 0, 1)), (1, (.iload_n 1, 1)), (2, (.invokevirtual 188, 3)), (5, (.ifCond .ne 5, 3)), (8, (.iconst (-1), 1)), (9, (.ireturn, 1)), (10, (.iload_n 2, 1)), (11, (.tableswitch 89 0 4 #[33, 40, 47, 70, 79], 33))], [], [(44, (.aload_n 0, 1)), (45, (.getfield 17, 3))], [(48, (.iload_n 1, 1)), (49, (.iaload, 1)), (50, (.ireturn, 1)), (51, (.aload_n 0, 1)), (52, (.getfield 20, 3)), (55, (.iload_n 1, 1)), (56, (.iaload, 1)), (57, (.ireturn, 1)), (58, (.aload_n 0, 1)), (59, (.getfield 23, 3)), (62, (.iload_n 1, 1)), (63, (.iaload, 1))], [(64, (.bipush 8, 2)), (66, (.if_icmp .ne 8, 3)), (69, (.bipush (-4), 2)), (71, (.goto 9, 3)), (74, (.aload_n 0, 1)), (75, (.getfield 23, 3)), (78, (.iload_n 1, 1)), (79, (.iaload, 1))], [(80, (.ireturn, 1)), (81, (.aload_n 0, 1)), (82, (.getfield 41, 3)), (85, (.iload_n 1, 1)), (86, (.invokestatic 192, 3)), (89, (.ireturn, 1)), (90, (.aload_n 0, 1)), (91, (.getfield 41, 3)), (94, (.bipush 32, 2))], [(96, (.iload_n 1, 1)), (97, (.iadd, 1)), (98, (.iaload, 1)), (99, (.ireturn, 1)), (100, (.iconst (-1), 1)), (101, (.ireturn, 1))]]
/-- Model.seat (II)I -/
def jc160 : jCode := [[(0, (.aload_n 0, 1)), (1, (.iload_n 1, 1)), (2, (.invokevirtual 196, 3)), (5, (.ifCond .ne 5, 3)), (8, (.iconst (-1), 1)), (9, (.ireturn, 1)), (10, (.iload_n 2, 1)), (11, (.tableswitch 77 0 4 #[33, 43, 50, 57, 67], 33))], [], [(44, (.aload_n 0, 1)), (45, (.getfield 41, 3))], [(48, (.bipush 11, 2)), (50, (.iload_n 1, 1)), (51, (.iadd, 1)), (52, (.iaload, 1)), (53, (.ireturn, 1)), (54, (.aload_n 0, 1)), (55, (.getfield 32, 3)), (58, (.iload_n 1, 1)), (59, (.iaload, 1)), (60, (.ireturn, 1)), (61, (.aload_n 0, 1)), (62, (.getfield 35, 3))], [(65, (.iload_n 1, 1)), (66, (.iaload, 1)), (67, (.ireturn, 1)), (68, (.aload_n 0, 1)), (69, (.aload_n 0, 1)), (70, (.getfield 41, 3)), (73, (.iload_n 1, 1)), (74, (.invokevirtual 199, 3)), (77, (.ireturn, 1)), (78, (.aload_n 0, 1)), (79, (.getfield 41, 3))], [(82, (.bipush 25, 2)), (84, (.iload_n 1, 1)), (85, (.iadd, 1)), (86, (.iaload, 1)), (87, (.ireturn, 1)), (88, (.iconst (-1), 1)), (89, (.ireturn, 1))]]
/-- Model.tonight (II)I -/
def jc161 : jCode := [[(0, (.aload_n 0, 1)), (1, (.iload_n 1, 1)), (2, (.invokevirtual 196, 3)), (5, (.ifCond .eq 12, 3)), (8, (.iload_n 2, 1)), (9, (.iconst 0, 1)), (10, (.iconst 2, 1)), (11, (.invokestatic 81, 3)), (14, (.ifCond .ne 5, 3))], [(17, (.iconst (-1), 1)), (18, (.ireturn, 1)), (19, (.aload_n 0, 1)), (20, (.aload_n 0, 1)), (21, (.getfield 41, 3)), (24, (.invokevirtual 173, 3)), (27, (.pop, 1)), (28, (.iload_n 2, 1)), (29, (.ifCond .ne 12, 3))], [(32, (.aload_n 0, 1)), (33, (.getfield 53, 3)), (36, (.iload_n 1, 1)), (37, (.iaload, 1)), (38, (.goto 23, 3)), (41, (.iload_n 2, 1)), (42, (.iconst 1, 1)), (43, (.if_icmp .ne 12, 3)), (46, (.aload_n 0, 1)), (47, (.getfield 63, 3))], [(50, (.iload_n 1, 1)), (51, (.iaload, 1)), (52, (.goto 9, 3)), (55, (.aload_n 0, 1)), (56, (.getfield 56, 3)), (59, (.iload_n 1, 1)), (60, (.iaload, 1)), (61, (.ireturn, 1))]]
/-- Model.passes (I)I -/
def jc162 : jCode := [[(0, (.iload_n 1, 1)), (1, (.iconst 0, 1)), (2, (.iconst 1, 1)), (3, (.invokestatic 81, 3)), (6, (.ifCond .ne 5, 3)), (9, (.iconst (-1), 1)), (10, (.ireturn, 1)), (11, (.iload_n 1, 1)), (12, (.ifCond .ne 14, 3)), (15, (.aload_n 0, 1))], [(16, (.aload_n 0, 1)), (17, (.getfield 41, 3)), (20, (.invokevirtual 173, 3)), (23, (.goto 19, 3)), (26, (.aload_n 0, 1)), (27, (.aload_n 0, 1)), (28, (.getfield 41, 3)), (31, (.invokevirtual 180, 3))], [(34, (.ifCond .eq 7, 3)), (37, (.iconst 1, 1)), (38, (.goto 4, 3)), (41, (.iconst 0, 1)), (42, (.ireturn, 1))]]
/-- Model.know ()V -/
def jc163 : jCode := [[(0, (.aload_n 0, 1)), (1, (.getfield 143, 3)), (4, (.bipush 8, 2)), (6, (.if_icmp .ne 43, 3)), (9, (.iconst 0, 1)), (10, (.istore_n 1, 1)), (11, (.iload_n 1, 1)), (12, (.sipush 273, 3)), (15, (.if_icmp .ge 24, 3))], [(18, (.aload_n 0, 1)), (19, (.getfield 44, 3)), (22, (.iload_n 1, 1)), (23, (.aload_n 0, 1)), (24, (.getfield 44, 3)), (27, (.bipush 39, 2)), (29, (.iload_n 1, 1)), (30, (.iadd, 1)), (31, (.iaload, 1))], [(32, (.iastore, 1)), (33, (.iinc 1 1, 3)), (36, (.goto (-25), 3)), (39, (.aload_n 0, 1)), (40, (.dup, 1)), (41, (.getfield 143, 3)), (44, (.iconst 1, 1)), (45, (.isub, 1)), (46, (.putfield 143, 3))], [(49, (.iconst 0, 1)), (50, (.istore_n 1, 1)), (51, (.iload_n 1, 1)), (52, (.bipush 39, 2)), (54, (.if_icmp .ge 29, 3)), (57, (.aload_n 0, 1)), (58, (.getfield 44, 3)), (61, (.bipush 39, 2)), (63, (.aload_n 0, 1))], [(64, (.getfield 143, 3)), (67, (.imul, 1)), (68, (.iload_n 1, 1)), (69, (.iadd, 1)), (70, (.aload_n 0, 1)), (71, (.getfield 41, 3)), (74, (.iload_n 1, 1)), (75, (.iaload, 1)), (76, (.iastore, 1)), (77, (.iinc 1 1, 3))], [(80, (.goto (-29), 3)), (83, (.aload_n 0, 1)), (84, (.dup, 1)), (85, (.getfield 143, 3)), (88, (.iconst 1, 1)), (89, (.iadd, 1)), (90, (.putfield 143, 3)), (93, (.return_, 1))]]
/-- Model.putOn ([III)V -/
def jc164 : jCode := [[(0, (.aload_n 0, 1)), (1, (.bipush 7, 2)), (3, (.iaload, 1)), (4, (.istore_n 3, 1)), (5, (.iload_n 3, 1)), (6, (.iload_n 2, 1)), (7, (.if_icmp .le 21, 3)), (10, (.aload_n 0, 1)), (11, (.iconst 0, 1)), (12, (.iload_n 3, 1)), (13, (.iadd, 1)), (14, (.aload_n 0, 1)), (15, (.iconst 0, 1))], [(16, (.iload_n 3, 1)), (17, (.iadd, 1)), (18, (.iconst 1, 1)), (19, (.isub, 1)), (20, (.iaload, 1)), (21, (.iastore, 1)), (22, (.iinc 3 (-1), 3)), (25, (.goto (-20), 3)), (28, (.aload_n 0, 1)), (29, (.iconst 0, 1)), (30, (.iload_n 2, 1)), (31, (.iadd, 1))], [(32, (.iload_n 1, 1)), (33, (.iastore, 1)), (34, (.aload_n 0, 1)), (35, (.bipush 7, 2)), (37, (.dup2, 1)), (38, (.iaload, 1)), (39, (.iconst 1, 1)), (40, (.iadd, 1)), (41, (.iastore, 1)), (42, (.return_, 1))]]
/-- Model.takeOff ([II)V -/
def jc165 : jCode := [[(0, (.iload_n 1, 1)), (1, (.istore_n 2, 1)), (2, (.iload_n 2, 1)), (3, (.iconst 1, 1)), (4, (.iadd, 1)), (5, (.aload_n 0, 1)), (6, (.bipush 7, 2)), (8, (.iaload, 1)), (9, (.if_icmp .ge 21, 3)), (12, (.aload_n 0, 1)), (13, (.iconst 0, 1)), (14, (.iload_n 2, 1)), (15, (.iadd, 1))], [(16, (.aload_n 0, 1)), (17, (.iconst 0, 1)), (18, (.iload_n 2, 1)), (19, (.iadd, 1)), (20, (.iconst 1, 1)), (21, (.iadd, 1)), (22, (.iaload, 1)), (23, (.iastore, 1)), (24, (.iinc 2 1, 3)), (27, (.goto (-25), 3)), (30, (.aload_n 0, 1)), (31, (.bipush 7, 2))], [(33, (.dup2, 1)), (34, (.iaload, 1)), (35, (.iconst 1, 1)), (36, (.isub, 1)), (37, (.iastore, 1)), (38, (.return_, 1))]]
/-- Model.change ([III)V -/
def jc166 : jCode := [[(0, (.aload_n 0, 1)), (1, (.aload_n 1, 1)), (2, (.iload_n 2, 1)), (3, (.invokevirtual 199, 3)), (6, (.istore 4, 2)), (8, (.aload_n 0, 1)), (9, (.aload_n 1, 1)), (10, (.iload_n 3, 1)), (11, (.invokevirtual 199, 3)), (14, (.istore 5, 2))], [(16, (.aload_n 1, 1)), (17, (.bipush 18, 2)), (19, (.iload 4, 2)), (21, (.iadd, 1)), (22, (.iload_n 3, 1)), (23, (.iastore, 1)), (24, (.aload_n 1, 1)), (25, (.bipush 18, 2)), (27, (.iload 5, 2)), (29, (.iadd, 1)), (30, (.iload_n 2, 1)), (31, (.iastore, 1))], [(32, (.return_, 1))]]
/-- Model.canHire ([II)Z -/
def jc167 : jCode := [[(0, (.aload_n 0, 1)), (1, (.bipush 11, 2)), (3, (.iload_n 1, 1)), (4, (.iadd, 1)), (5, (.iaload, 1)), (6, (.iconst 3, 1)), (7, (.if_icmp .eq 15, 3)), (10, (.aload_n 0, 1)), (11, (.bipush 8, 2)), (13, (.iaload, 1)), (14, (.iconst 5, 1)), (15, (.if_icmp .lt 7, 3))], [(18, (.iconst 1, 1)), (19, (.goto 4, 3)), (22, (.iconst 0, 1)), (23, (.ireturn, 1))]]
/-- Model.hireFor ([II)V -/
def jc168 : jCode := [[(0, (.aload_n 0, 1)), (1, (.bipush 11, 2)), (3, (.iload_n 1, 1)), (4, (.iadd, 1)), (5, (.iconst 3, 1)), (6, (.iastore, 1)), (7, (.aload_n 0, 1)), (8, (.bipush 8, 2)), (10, (.dup2, 1)), (11, (.iaload, 1)), (12, (.iconst 5, 1)), (13, (.isub, 1)), (14, (.iastore, 1)), (15, (.return_, 1))]]
/-- Model.add (I)I -/
def jc169 : jCode := [[(0, (.aload_n 0, 1)), (1, (.iload_n 1, 1)), (2, (.invokevirtual 188, 3)), (5, (.ifCond .ne 5, 3)), (8, (.iconst (-1), 1)), (9, (.ireturn, 1)), (10, (.aload_n 0, 1)), (11, (.getfield 41, 3)), (14, (.iload_n 1, 1)), (15, (.invokestatic 192, 3))], [(18, (.bipush (-4), 2)), (20, (.if_icmp .eq 6, 3)), (23, (.bipush (-2), 2)), (25, (.ireturn, 1)), (26, (.aload_n 0, 1)), (27, (.invokevirtual 202, 3)), (30, (.aload_n 0, 1)), (31, (.getfield 41, 3))], [(34, (.iload_n 1, 1)), (35, (.aload_n 0, 1)), (36, (.getfield 41, 3)), (39, (.bipush 7, 2)), (41, (.iaload, 1)), (42, (.invokestatic 205, 3)), (45, (.aload_n 0, 1)), (46, (.getfield 41, 3))], [(49, (.bipush 7, 2)), (51, (.iaload, 1)), (52, (.iconst 1, 1)), (53, (.isub, 1)), (54, (.ireturn, 1))]]
/-- Model.cut (I)I -/
def jc170 : jCode := [[(0, (.aload_n 0, 1)), (1, (.iload_n 1, 1)), (2, (.invokevirtual 188, 3)), (5, (.ifCond .ne 5, 3)), (8, (.iconst (-1), 1)), (9, (.ireturn, 1)), (10, (.aload_n 0, 1)), (11, (.getfield 41, 3)), (14, (.iload_n 1, 1)), (15, (.invokestatic 192, 3))], [(18, (.istore_n 2, 1)), (19, (.iload_n 2, 1)), (20, (.bipush (-4), 2)), (22, (.if_icmp .ne 6, 3)), (25, (.bipush (-2), 2)), (27, (.ireturn, 1)), (28, (.aload_n 0, 1)), (29, (.invokevirtual 202, 3))], [(32, (.aload_n 0, 1)), (33, (.getfield 41, 3)), (36, (.iload_n 2, 1)), (37, (.invokestatic 208, 3)), (40, (.aload_n 0, 1)), (41, (.getfield 41, 3)), (44, (.bipush 7, 2)), (46, (.iaload, 1)), (47, (.ireturn, 1))]]
/-- Model.play ()I -/
def jc171 : jCode := [[(0, (.aload_n 0, 1)), (1, (.aload_n 0, 1)), (2, (.getfield 41, 3)), (5, (.invokevirtual 212, 3)), (8, (.ifCond .ne 6, 3)), (11, (.bipush (-2), 2)), (13, (.ireturn, 1)), (14, (.aload_n 0, 1)), (15, (.invokevirtual 202, 3))], [(18, (.aload_n 0, 1)), (19, (.aload_n 0, 1)), (20, (.getfield 41, 3)), (23, (.invokevirtual 215, 3)), (26, (.ifCond .eq 7, 3)), (29, (.iconst 1, 1)), (30, (.goto 4, 3))], [(33, (.iconst 0, 1)), (34, (.ireturn, 1))]]
/-- Model.swap (II)I -/
def jc172 : jCode := [[(0, (.aload_n 0, 1)), (1, (.iload_n 1, 1)), (2, (.invokevirtual 196, 3)), (5, (.ifCond .eq 16, 3)), (8, (.aload_n 0, 1)), (9, (.iload_n 2, 1)), (10, (.invokevirtual 196, 3)), (13, (.ifCond .eq 8, 3))], [(16, (.iload_n 1, 1)), (17, (.iload_n 2, 1)), (18, (.if_icmp .ne 5, 3)), (21, (.iconst (-1), 1)), (22, (.ireturn, 1)), (23, (.aload_n 0, 1)), (24, (.invokevirtual 202, 3)), (27, (.aload_n 0, 1)), (28, (.aload_n 0, 1)), (29, (.getfield 41, 3))], [(32, (.iload_n 1, 1)), (33, (.iload_n 2, 1)), (34, (.invokevirtual 218, 3)), (37, (.aload_n 0, 1)), (38, (.aload_n 0, 1)), (39, (.getfield 41, 3)), (42, (.iload_n 1, 1)), (43, (.invokevirtual 199, 3)), (46, (.ireturn, 1))]]
/-- Model.hire (I)I -/
def jc173 : jCode := [[(0, (.aload_n 0, 1)), (1, (.iload_n 1, 1)), (2, (.invokevirtual 196, 3)), (5, (.ifCond .ne 5, 3)), (8, (.iconst (-1), 1)), (9, (.ireturn, 1)), (10, (.aload_n 0, 1)), (11, (.getfield 41, 3)), (14, (.iload_n 1, 1)), (15, (.invokestatic 221, 3))], [(18, (.ifCond .ne 6, 3)), (21, (.bipush (-2), 2)), (23, (.ireturn, 1)), (24, (.aload_n 0, 1)), (25, (.invokevirtual 202, 3)), (28, (.aload_n 0, 1)), (29, (.getfield 41, 3))], [(32, (.iload_n 1, 1)), (33, (.invokestatic 224, 3)), (36, (.aload_n 0, 1)), (37, (.getfield 41, 3)), (40, (.bipush 8, 2)), (42, (.iaload, 1)), (43, (.ireturn, 1))]]
/-- Model.undo ()I -/
def jc174 : jCode := [[(0, (.aload_n 0, 1)), (1, (.getfield 143, 3)), (4, (.ifCond .ne 6, 3)), (7, (.bipush (-2), 2)), (9, (.ireturn, 1)), (10, (.aload_n 0, 1)), (11, (.dup, 1)), (12, (.getfield 143, 3)), (15, (.iconst 1, 1))], [(16, (.isub, 1)), (17, (.putfield 143, 3)), (20, (.iconst 0, 1)), (21, (.istore_n 1, 1)), (22, (.iload_n 1, 1)), (23, (.bipush 39, 2)), (25, (.if_icmp .ge 29, 3)), (28, (.aload_n 0, 1)), (29, (.getfield 41, 3))], [(32, (.iload_n 1, 1)), (33, (.aload_n 0, 1)), (34, (.getfield 44, 3)), (37, (.bipush 39, 2)), (39, (.aload_n 0, 1)), (40, (.getfield 143, 3)), (43, (.imul, 1)), (44, (.iload_n 1, 1)), (45, (.iadd, 1)), (46, (.iaload, 1)), (47, (.iastore, 1))], [(48, (.iinc 1 1, 3)), (51, (.goto (-29), 3)), (54, (.aload_n 0, 1)), (55, (.getfield 143, 3)), (58, (.ireturn, 1))]]
/-- Model.clausesTried ()I -/
def jc175 : jCode := [[(0, (.iconst 0, 1)), (1, (.istore_n 1, 1)), (2, (.iconst 0, 1)), (3, (.istore_n 2, 1)), (4, (.iload_n 2, 1)), (5, (.aload_n 0, 1)), (6, (.getfield 50, 3)), (9, (.bipush 7, 2)), (11, (.iaload, 1)), (12, (.if_icmp .ge 54, 3)), (15, (.aload_n 0, 1))], [(16, (.getfield 50, 3)), (19, (.iconst 0, 1)), (20, (.iload_n 2, 1)), (21, (.iadd, 1)), (22, (.iaload, 1)), (23, (.istore_n 3, 1)), (24, (.iload_n 1, 1)), (25, (.aload_n 0, 1)), (26, (.getfield 17, 3)), (29, (.iload_n 3, 1)), (30, (.iaload, 1)), (31, (.iconst 3, 1))], [(32, (.if_icmp .eq 25, 3)), (35, (.aload_n 0, 1)), (36, (.getfield 23, 3)), (39, (.iload_n 3, 1)), (40, (.iaload, 1)), (41, (.bipush 8, 2)), (43, (.if_icmp .ge 14, 3)), (46, (.iconst 1, 1)), (47, (.aload_n 0, 1))], [(48, (.getfield 23, 3)), (51, (.iload_n 3, 1)), (52, (.iaload, 1)), (53, (.ishl, 1)), (54, (.goto 4, 3)), (57, (.iconst 0, 1)), (58, (.ior, 1)), (59, (.istore_n 1, 1)), (60, (.iinc 2 1, 3)), (63, (.goto (-59), 3))], [(66, (.iload_n 1, 1)), (67, (.ireturn, 1))]]
/-- Model.minutesTried ()I -/
def jc176 : jCode := [[(0, (.iconst 0, 1)), (1, (.istore_n 1, 1)), (2, (.iconst 0, 1)), (3, (.istore_n 2, 1)), (4, (.iload_n 2, 1)), (5, (.aload_n 0, 1)), (6, (.getfield 50, 3)), (9, (.bipush 7, 2)), (11, (.iaload, 1)), (12, (.if_icmp .ge 25, 3)), (15, (.iload_n 1, 1))], [(16, (.aload_n 0, 1)), (17, (.getfield 20, 3)), (20, (.aload_n 0, 1)), (21, (.getfield 50, 3)), (24, (.iconst 0, 1)), (25, (.iload_n 2, 1)), (26, (.iadd, 1)), (27, (.iaload, 1)), (28, (.iaload, 1)), (29, (.iadd, 1)), (30, (.istore_n 1, 1)), (31, (.iinc 2 1, 3))], [(34, (.goto (-30), 3)), (37, (.iload_n 1, 1)), (38, (.ireturn, 1))]]
/-- Model.nextBill ()Z -/
def jc177 : jCode := [[(0, (.iconst 0, 1)), (1, (.istore_n 1, 1)), (2, (.iload_n 1, 1)), (3, (.aload_n 0, 1)), (4, (.getfield 13, 3)), (7, (.iconst 0, 1)), (8, (.iaload, 1)), (9, (.if_icmp .ge 22, 3)), (12, (.aload_n 0, 1)), (13, (.getfield 50, 3))], [(16, (.iload_n 1, 1)), (17, (.invokestatic 192, 3)), (20, (.bipush (-4), 2)), (22, (.if_icmp .eq 9, 3)), (25, (.iinc 1 1, 3)), (28, (.goto (-26), 3)), (31, (.iload_n 1, 1))], [(32, (.aload_n 0, 1)), (33, (.getfield 13, 3)), (36, (.iconst 0, 1)), (37, (.iaload, 1)), (38, (.if_icmp .ge 20, 3)), (41, (.aload_n 0, 1)), (42, (.getfield 50, 3)), (45, (.iload_n 1, 1)), (46, (.aload_n 0, 1)), (47, (.getfield 50, 3))], [(50, (.bipush 7, 2)), (52, (.iaload, 1)), (53, (.invokestatic 205, 3)), (56, (.iconst 1, 1)), (57, (.ireturn, 1)), (58, (.aload_n 0, 1)), (59, (.getfield 50, 3)), (62, (.bipush 7, 2))], [(64, (.iaload, 1)), (65, (.ifCond .ne 5, 3)), (68, (.iconst 0, 1)), (69, (.ireturn, 1)), (70, (.aload_n 0, 1)), (71, (.getfield 50, 3)), (74, (.bipush 7, 2)), (76, (.dup2, 1)), (77, (.iaload, 1)), (78, (.iconst 1, 1)), (79, (.isub, 1))], [(80, (.iastore, 1)), (81, (.aload_n 0, 1)), (82, (.getfield 50, 3)), (85, (.iconst 0, 1)), (86, (.aload_n 0, 1)), (87, (.getfield 50, 3)), (90, (.bipush 7, 2)), (92, (.iaload, 1)), (93, (.iadd, 1)), (94, (.iaload, 1)), (95, (.iconst 1, 1))], [(96, (.iadd, 1)), (97, (.istore_n 1, 1)), (98, (.goto (-96), 3))]]
/-- Model.soonest (II)I -/
def jc178 : jCode := [[(0, (.iload_n 1, 1)), (1, (.iconst 0, 1)), (2, (.sipush 255, 3)), (5, (.invokestatic 81, 3)), (8, (.ifCond .eq 13, 3)), (11, (.iload_n 2, 1)), (12, (.iconst 0, 1)), (13, (.bipush 7, 2)), (15, (.invokestatic 81, 3))], [(18, (.ifCond .ne 5, 3)), (21, (.iconst (-1), 1)), (22, (.ireturn, 1)), (23, (.aload_n 0, 1)), (24, (.invokevirtual 227, 3)), (27, (.aload_n 0, 1)), (28, (.getfield 50, 3)), (31, (.bipush 7, 2))], [(33, (.iconst 0, 1)), (34, (.iastore, 1)), (35, (.bipush (-4), 2)), (37, (.istore_n 3, 1)), (38, (.iconst 0, 1)), (39, (.istore 4, 2)), (41, (.aload_n 0, 1)), (42, (.invokevirtual 230, 3)), (45, (.ifCond .eq 90, 3))], [(48, (.aload_n 0, 1)), (49, (.invokevirtual 233, 3)), (52, (.istore 5, 2)), (54, (.iload_n 3, 1)), (55, (.bipush (-4), 2)), (57, (.if_icmp .eq 9, 3)), (60, (.iload 5, 2)), (62, (.iload_n 3, 1)), (63, (.if_icmp .ge 69, 3))], [(66, (.iload_n 1, 1)), (67, (.aload_n 0, 1)), (68, (.invokevirtual 236, 3)), (71, (.iconst (-1), 1)), (72, (.ixor, 1)), (73, (.iand, 1)), (74, (.ifCond .ne 58, 3)), (77, (.aload_n 0, 1)), (78, (.aload_n 0, 1)), (79, (.getfield 50, 3))], [(82, (.invokevirtual 180, 3)), (85, (.ifCond .eq 47, 3)), (88, (.iload 5, 2)), (90, (.istore_n 3, 1)), (91, (.aload_n 0, 1)), (92, (.getfield 50, 3)), (95, (.bipush 7, 2))], [(97, (.iaload, 1)), (98, (.istore 4, 2)), (100, (.iconst 0, 1)), (101, (.istore 6, 2)), (103, (.iload 6, 2)), (105, (.iload 4, 2)), (107, (.if_icmp .ge 25, 3)), (110, (.aload_n 0, 1)), (111, (.getfield 66, 3))], [(114, (.iload 6, 2)), (116, (.aload_n 0, 1)), (117, (.getfield 50, 3)), (120, (.iconst 0, 1)), (121, (.iload 6, 2)), (123, (.iadd, 1)), (124, (.iaload, 1)), (125, (.iastore, 1)), (126, (.iinc 6 1, 3))], [(129, (.goto (-26), 3)), (132, (.goto (-91), 3)), (135, (.iload_n 2, 1)), (136, (.ifCond .eq 9, 3)), (139, (.iload_n 3, 1)), (140, (.bipush (-4), 2)), (142, (.if_icmp .ne 7, 3))], [(145, (.iload_n 3, 1)), (146, (.goto 22, 3)), (149, (.iload_n 2, 1)), (150, (.iload 4, 2)), (152, (.if_icmp .gt 14, 3)), (155, (.aload_n 0, 1)), (156, (.getfield 66, 3)), (159, (.iload_n 2, 1))], [(160, (.iconst 1, 1)), (161, (.isub, 1)), (162, (.iaload, 1)), (163, (.goto 5, 3)), (166, (.bipush (-4), 2)), (168, (.ireturn, 1))]]
/-- Model.nextRow ()Z -/
def jc179 : jCode := [[(0, (.aload_n 0, 1)), (1, (.getfield 26, 3)), (4, (.iconst 0, 1)), (5, (.iaload, 1)), (6, (.iconst 2, 1)), (7, (.isub, 1)), (8, (.istore_n 1, 1)), (9, (.iload_n 1, 1)), (10, (.ifCond .lt 32, 3)), (13, (.aload_n 0, 1)), (14, (.getfield 50, 3))], [(17, (.bipush 18, 2)), (19, (.iload_n 1, 1)), (20, (.iadd, 1)), (21, (.iaload, 1)), (22, (.aload_n 0, 1)), (23, (.getfield 50, 3)), (26, (.bipush 18, 2)), (28, (.iload_n 1, 1)), (29, (.iadd, 1)), (30, (.iconst 1, 1)), (31, (.iadd, 1))], [(32, (.iaload, 1)), (33, (.if_icmp .le 9, 3)), (36, (.iinc 1 (-1), 3)), (39, (.goto (-30), 3)), (42, (.iload_n 1, 1)), (43, (.ifCond .ge 5, 3)), (46, (.iconst 0, 1)), (47, (.ireturn, 1))], [(48, (.aload_n 0, 1)), (49, (.getfield 26, 3)), (52, (.iconst 0, 1)), (53, (.iaload, 1)), (54, (.iconst 1, 1)), (55, (.isub, 1)), (56, (.istore_n 2, 1)), (57, (.aload_n 0, 1)), (58, (.getfield 50, 3)), (61, (.bipush 18, 2)), (63, (.iload_n 2, 1))], [(64, (.iadd, 1)), (65, (.iaload, 1)), (66, (.aload_n 0, 1)), (67, (.getfield 50, 3)), (70, (.bipush 18, 2)), (72, (.iload_n 1, 1)), (73, (.iadd, 1)), (74, (.iaload, 1)), (75, (.if_icmp .ge 9, 3)), (78, (.iinc 2 (-1), 3))], [(81, (.goto (-24), 3)), (84, (.aload_n 0, 1)), (85, (.getfield 50, 3)), (88, (.bipush 18, 2)), (90, (.iload_n 1, 1)), (91, (.iadd, 1)), (92, (.iaload, 1)), (93, (.istore_n 3, 1)), (94, (.aload_n 0, 1)), (95, (.getfield 50, 3))], [(98, (.bipush 18, 2)), (100, (.iload_n 1, 1)), (101, (.iadd, 1)), (102, (.aload_n 0, 1)), (103, (.getfield 50, 3)), (106, (.bipush 18, 2)), (108, (.iload_n 2, 1)), (109, (.iadd, 1)), (110, (.iaload, 1)), (111, (.iastore, 1))], [(112, (.aload_n 0, 1)), (113, (.getfield 50, 3)), (116, (.bipush 18, 2)), (118, (.iload_n 2, 1)), (119, (.iadd, 1)), (120, (.iload_n 3, 1)), (121, (.iastore, 1)), (122, (.iload_n 1, 1)), (123, (.iconst 1, 1)), (124, (.iadd, 1)), (125, (.istore 4, 2)), (127, (.aload_n 0, 1))], [(128, (.getfield 26, 3)), (131, (.iconst 0, 1)), (132, (.iaload, 1)), (133, (.iconst 1, 1)), (134, (.isub, 1)), (135, (.istore 5, 2)), (137, (.iload 4, 2)), (139, (.iload 5, 2)), (141, (.if_icmp .ge 54, 3))], [(144, (.aload_n 0, 1)), (145, (.getfield 50, 3)), (148, (.bipush 18, 2)), (150, (.iload 4, 2)), (152, (.iadd, 1)), (153, (.iaload, 1)), (154, (.istore_n 3, 1)), (155, (.aload_n 0, 1)), (156, (.getfield 50, 3)), (159, (.bipush 18, 2))], [(161, (.iload 4, 2)), (163, (.iadd, 1)), (164, (.aload_n 0, 1)), (165, (.getfield 50, 3)), (168, (.bipush 18, 2)), (170, (.iload 5, 2)), (172, (.iadd, 1)), (173, (.iaload, 1)), (174, (.iastore, 1)), (175, (.aload_n 0, 1))], [(176, (.getfield 50, 3)), (179, (.bipush 18, 2)), (181, (.iload 5, 2)), (183, (.iadd, 1)), (184, (.iload_n 3, 1)), (185, (.iastore, 1)), (186, (.iinc 4 1, 3)), (189, (.iinc 5 (-1), 3))], [(192, (.goto (-55), 3)), (195, (.iconst 1, 1)), (196, (.ireturn, 1))]]
/-- Model.seating (I)I -/
def jc180 : jCode := [[(0, (.iload_n 1, 1)), (1, (.iconst (-1), 1)), (2, (.aload_n 0, 1)), (3, (.getfield 26, 3)), (6, (.iconst 0, 1)), (7, (.iaload, 1)), (8, (.iconst 1, 1)), (9, (.isub, 1)), (10, (.invokestatic 81, 3)), (13, (.ifCond .ne 5, 3))], [(16, (.iconst (-1), 1)), (17, (.ireturn, 1)), (18, (.aload_n 0, 1)), (19, (.invokevirtual 227, 3)), (22, (.iconst 0, 1)), (23, (.istore_n 2, 1)), (24, (.iload_n 2, 1)), (25, (.bipush 7, 2)), (27, (.if_icmp .ge 19, 3)), (30, (.aload_n 0, 1)), (31, (.getfield 50, 3))], [(34, (.bipush 18, 2)), (36, (.iload_n 2, 1)), (37, (.iadd, 1)), (38, (.iload_n 2, 1)), (39, (.iastore, 1)), (40, (.iinc 2 1, 3)), (43, (.goto (-19), 3)), (46, (.iconst (-1), 1)), (47, (.istore_n 2, 1))], [(48, (.iconst 1, 1)), (49, (.istore_n 3, 1)), (50, (.iload_n 3, 1)), (51, (.ifCond .eq 67, 3)), (54, (.aload_n 0, 1)), (55, (.aload_n 0, 1)), (56, (.getfield 50, 3)), (59, (.invokevirtual 173, 3)), (62, (.istore 4, 2))], [(64, (.iload 4, 2)), (66, (.iload_n 2, 1)), (67, (.if_icmp .le 43, 3)), (70, (.iload 4, 2)), (72, (.istore_n 2, 1)), (73, (.iconst 0, 1)), (74, (.istore 5, 2)), (76, (.iload 5, 2)), (78, (.aload_n 0, 1)), (79, (.getfield 26, 3))], [(82, (.iconst 0, 1)), (83, (.iaload, 1)), (84, (.if_icmp .ge 26, 3)), (87, (.aload_n 0, 1)), (88, (.getfield 66, 3)), (91, (.iload 5, 2)), (93, (.aload_n 0, 1)), (94, (.getfield 50, 3))], [(97, (.bipush 18, 2)), (99, (.iload 5, 2)), (101, (.iadd, 1)), (102, (.iaload, 1)), (103, (.iastore, 1)), (104, (.iinc 5 1, 3)), (107, (.goto (-31), 3)), (110, (.aload_n 0, 1)), (111, (.invokevirtual 239, 3))], [(114, (.istore_n 3, 1)), (115, (.goto (-65), 3)), (118, (.iload_n 1, 1)), (119, (.iconst (-1), 1)), (120, (.if_icmp .ne 7, 3)), (123, (.iload_n 2, 1)), (124, (.goto 9, 3)), (127, (.aload_n 0, 1))], [(128, (.getfield 66, 3)), (131, (.iload_n 1, 1)), (132, (.iaload, 1)), (133, (.ireturn, 1))]]
/-- Model.claques (I)I -/
def jc181 : jCode := [[(0, (.iload_n 1, 1)), (1, (.iconst 0, 1)), (2, (.iconst 1, 1)), (3, (.invokestatic 81, 3)), (6, (.ifCond .ne 5, 3)), (9, (.iconst (-1), 1)), (10, (.ireturn, 1)), (11, (.bipush (-4), 2)), (13, (.istore_n 2, 1)), (14, (.iconst 0, 1)), (15, (.istore_n 3, 1))], [(16, (.iload_n 3, 1)), (17, (.iconst 1, 1)), (18, (.aload_n 0, 1)), (19, (.getfield 26, 3)), (22, (.iconst 0, 1)), (23, (.iaload, 1)), (24, (.ishl, 1)), (25, (.if_icmp .ge 101, 3)), (28, (.iload_n 2, 1)), (29, (.bipush (-4), 2)), (31, (.if_icmp .eq 14, 3))], [(34, (.iload_n 3, 1)), (35, (.invokestatic 152, 3)), (38, (.iload_n 2, 1)), (39, (.invokestatic 152, 3)), (42, (.if_icmp .ge 78, 3)), (45, (.aload_n 0, 1)), (46, (.invokevirtual 227, 3))], [(49, (.iconst 0, 1)), (50, (.istore 4, 2)), (52, (.iload 4, 2)), (54, (.aload_n 0, 1)), (55, (.getfield 26, 3)), (58, (.iconst 0, 1)), (59, (.iaload, 1)), (60, (.if_icmp .ge 43, 3)), (63, (.aload_n 0, 1))], [(64, (.getfield 50, 3)), (67, (.bipush 11, 2)), (69, (.iload 4, 2)), (71, (.iadd, 1)), (72, (.iload_n 3, 1)), (73, (.iload 4, 2)), (75, (.ishr, 1)), (76, (.iconst 1, 1)), (77, (.iand, 1)), (78, (.iconst 1, 1)), (79, (.if_icmp .ne 7, 3))], [(82, (.iconst 3, 1)), (83, (.goto 13, 3)), (86, (.aload_n 0, 1)), (87, (.getfield 41, 3)), (90, (.bipush 11, 2)), (92, (.iload 4, 2)), (94, (.iadd, 1)), (95, (.iaload, 1))], [(96, (.iastore, 1)), (97, (.iinc 4 1, 3)), (100, (.goto (-48), 3)), (103, (.aload_n 0, 1)), (104, (.aload_n 0, 1)), (105, (.getfield 50, 3)), (108, (.invokevirtual 180, 3)), (111, (.ifCond .eq 7, 3))], [(114, (.iload_n 3, 1)), (115, (.goto 4, 3)), (118, (.iload_n 2, 1)), (119, (.istore_n 2, 1)), (120, (.iinc 3 1, 3)), (123, (.goto (-107), 3)), (126, (.iload_n 2, 1)), (127, (.bipush (-4), 2))], [(129, (.if_icmp .eq 8, 3)), (132, (.iload_n 1, 1)), (133, (.iconst 1, 1)), (134, (.if_icmp .ne 7, 3)), (137, (.iload_n 2, 1)), (138, (.goto 7, 3)), (141, (.iload_n 2, 1)), (142, (.invokestatic 152, 3))], [(145, (.ireturn, 1))]]
/-- Model.falls ()I -/
def jc182 : jCode := [[(0, (.aload_n 0, 1)), (1, (.aload_n 0, 1)), (2, (.getfield 41, 3)), (5, (.invokevirtual 180, 3)), (8, (.ifCond .ne 6, 3)), (11, (.bipush (-4), 2)), (13, (.ireturn, 1)), (14, (.iconst 0, 1)), (15, (.istore_n 1, 1))], [(16, (.iload_n 1, 1)), (17, (.aload_n 0, 1)), (18, (.getfield 13, 3)), (21, (.iconst 0, 1)), (22, (.iaload, 1)), (23, (.if_icmp .ge 49, 3)), (26, (.aload_n 0, 1)), (27, (.getfield 41, 3)), (30, (.iload_n 1, 1)), (31, (.invokestatic 192, 3))], [(34, (.istore_n 2, 1)), (35, (.iload_n 2, 1)), (36, (.bipush (-4), 2)), (38, (.if_icmp .eq 28, 3)), (41, (.aload_n 0, 1)), (42, (.invokevirtual 227, 3)), (45, (.aload_n 0, 1)), (46, (.getfield 50, 3))], [(49, (.iload_n 2, 1)), (50, (.invokestatic 208, 3)), (53, (.aload_n 0, 1)), (54, (.aload_n 0, 1)), (55, (.getfield 50, 3)), (58, (.invokevirtual 180, 3)), (61, (.ifCond .ne 5, 3))], [(64, (.iload_n 1, 1)), (65, (.ireturn, 1)), (66, (.iinc 1 1, 3)), (69, (.goto (-53), 3)), (72, (.bipush (-4), 2)), (74, (.ireturn, 1))]]
/-- Model.run ()I -/
def jc183 : jCode := [[(0, (.aload_n 0, 1)), (1, (.invokevirtual 227, 3)), (4, (.iconst 0, 1)), (5, (.istore_n 1, 1)), (6, (.iload_n 1, 1)), (7, (.bipush 30, 2)), (9, (.if_icmp .ge 59, 3)), (12, (.aload_n 0, 1)), (13, (.aload_n 0, 1)), (14, (.getfield 50, 3))], [(17, (.invokevirtual 180, 3)), (20, (.ifCond .eq 48, 3)), (23, (.iinc 1 1, 3)), (26, (.iconst 0, 1)), (27, (.istore_n 2, 1)), (28, (.iload_n 2, 1)), (29, (.aload_n 0, 1)), (30, (.getfield 50, 3))], [(33, (.bipush 7, 2)), (35, (.iaload, 1)), (36, (.if_icmp .ge 29, 3)), (39, (.aload_n 0, 1)), (40, (.getfield 50, 3)), (43, (.bipush 32, 2)), (45, (.aload_n 0, 1)), (46, (.getfield 50, 3))], [(49, (.iconst 0, 1)), (50, (.iload_n 2, 1)), (51, (.iadd, 1)), (52, (.iaload, 1)), (53, (.iadd, 1)), (54, (.dup2, 1)), (55, (.iaload, 1)), (56, (.iconst 1, 1)), (57, (.iadd, 1)), (58, (.iastore, 1)), (59, (.iinc 2 1, 3)), (62, (.goto (-34), 3))], [(65, (.goto (-59), 3)), (68, (.iload_n 1, 1)), (69, (.ireturn, 1))]]
/-- Model.most (I)I -/
def jc184 : jCode := [[(0, (.iload_n 1, 1)), (1, (.iconst 0, 1)), (2, (.iconst 1, 1)), (3, (.invokestatic 81, 3)), (6, (.ifCond .ne 5, 3)), (9, (.iconst (-1), 1)), (10, (.ireturn, 1)), (11, (.bipush (-4), 2)), (13, (.istore_n 2, 1)), (14, (.iconst 0, 1)), (15, (.istore_n 3, 1))], [(16, (.iconst 0, 1)), (17, (.istore 4, 2)), (19, (.iload 4, 2)), (21, (.aload_n 0, 1)), (22, (.getfield 13, 3)), (25, (.iconst 0, 1)), (26, (.iaload, 1)), (27, (.if_icmp .ge 112, 3)), (30, (.iconst 0, 1)), (31, (.istore 5, 2))], [(33, (.iload 5, 2)), (35, (.aload_n 0, 1)), (36, (.getfield 41, 3)), (39, (.bipush 7, 2)), (41, (.iaload, 1)), (42, (.if_icmp .gt 91, 3)), (45, (.aload_n 0, 1)), (46, (.getfield 41, 3))], [(49, (.iload 4, 2)), (51, (.invokestatic 192, 3)), (54, (.bipush (-4), 2)), (56, (.if_icmp .ne 77, 3)), (59, (.aload_n 0, 1)), (60, (.invokevirtual 227, 3)), (63, (.aload_n 0, 1))], [(64, (.getfield 50, 3)), (67, (.iload 4, 2)), (69, (.iload 5, 2)), (71, (.invokestatic 205, 3)), (74, (.aload_n 0, 1)), (75, (.aload_n 0, 1)), (76, (.getfield 50, 3)), (79, (.invokevirtual 180, 3))], [(82, (.ifCond .eq 11, 3)), (85, (.aload_n 0, 1)), (86, (.aload_n 0, 1)), (87, (.getfield 50, 3)), (90, (.invokevirtual 184, 3)), (93, (.aload_n 0, 1)), (94, (.aload_n 0, 1)), (95, (.getfield 50, 3))], [(98, (.invokevirtual 242, 3)), (101, (.istore 6, 2)), (103, (.iload_n 2, 1)), (104, (.bipush (-4), 2)), (106, (.if_icmp .eq 9, 3)), (109, (.iload 6, 2)), (111, (.iload_n 3, 1))], [(112, (.if_icmp .le 15, 3)), (115, (.bipush 10, 2)), (117, (.iload 4, 2)), (119, (.imul, 1)), (120, (.iload 5, 2)), (122, (.iadd, 1)), (123, (.istore_n 2, 1)), (124, (.iload 6, 2)), (126, (.istore_n 3, 1)), (127, (.iinc 5 1, 3))], [(130, (.goto (-97), 3)), (133, (.iinc 4 1, 3)), (136, (.goto (-117), 3)), (139, (.iload_n 2, 1)), (140, (.bipush (-4), 2)), (142, (.if_icmp .eq 7, 3))], [(145, (.iload_n 1, 1)), (146, (.ifCond .ne 7, 3)), (149, (.iload_n 2, 1)), (150, (.goto 4, 3)), (153, (.iload_n 3, 1)), (154, (.ireturn, 1))]]
/-- Model.see (II)I -/
def jc185 : jCode := [[(0, (.aload_n 0, 1)), (1, (.iload_n 1, 1)), (2, (.invokevirtual 196, 3)), (5, (.ifCond .eq 13, 3)), (8, (.iload_n 2, 1)), (9, (.iconst 0, 1)), (10, (.bipush 7, 2)), (12, (.invokestatic 81, 3)), (15, (.ifCond .ne 5, 3))], [(18, (.iconst (-1), 1)), (19, (.ireturn, 1)), (20, (.aload_n 0, 1)), (21, (.getfield 149, 3)), (24, (.bipush 6, 2)), (26, (.if_icmp .ne 6, 3)), (29, (.bipush (-3), 2)), (31, (.ireturn, 1))], [(32, (.aload_n 0, 1)), (33, (.getfield 69, 3)), (36, (.aload_n 0, 1)), (37, (.getfield 149, 3)), (40, (.iload_n 1, 1)), (41, (.iastore, 1)), (42, (.aload_n 0, 1)), (43, (.getfield 72, 3)), (46, (.aload_n 0, 1)), (47, (.getfield 149, 3))], [(50, (.iload_n 2, 1)), (51, (.iastore, 1)), (52, (.aload_n 0, 1)), (53, (.dup, 1)), (54, (.getfield 149, 3)), (57, (.iconst 1, 1)), (58, (.iadd, 1)), (59, (.putfield 149, 3)), (62, (.aload_n 0, 1)), (63, (.getfield 149, 3))], [(66, (.ireturn, 1))]]
/-- Model.forget ()I -/
def jc186 : jCode := [[(0, (.aload_n 0, 1)), (1, (.getfield 149, 3)), (4, (.istore_n 1, 1)), (5, (.aload_n 0, 1)), (6, (.iconst 0, 1)), (7, (.putfield 149, 3)), (10, (.iload_n 1, 1)), (11, (.ireturn, 1))]]
/-- Model.isSo (I)Z -/
def jc187 : jCode := [[(0, (.aload_n 0, 1)), (1, (.aload_n 0, 1)), (2, (.getfield 41, 3)), (5, (.invokevirtual 173, 3)), (8, (.pop, 1)), (9, (.aload_n 0, 1)), (10, (.getfield 53, 3)), (13, (.iload_n 1, 1)), (14, (.iaload, 1)), (15, (.bipush (-4), 2))], [(17, (.if_icmp .ne 7, 3)), (20, (.iconst 0, 1)), (21, (.goto 9, 3)), (24, (.aload_n 0, 1)), (25, (.getfield 53, 3)), (28, (.iload_n 1, 1)), (29, (.iaload, 1)), (30, (.istore_n 2, 1)), (31, (.iconst 1, 1))], [(32, (.istore_n 3, 1)), (33, (.iconst 0, 1)), (34, (.istore 4, 2)), (36, (.iload 4, 2)), (38, (.aload_n 0, 1)), (39, (.getfield 149, 3)), (42, (.if_icmp .ge 41, 3)), (45, (.iload_n 3, 1)), (46, (.ifCond .eq 29, 3))], [(49, (.aload_n 0, 1)), (50, (.getfield 69, 3)), (53, (.iload 4, 2)), (55, (.iaload, 1)), (56, (.iload_n 1, 1)), (57, (.if_icmp .ne 14, 3)), (60, (.aload_n 0, 1)), (61, (.getfield 72, 3))], [(64, (.iload 4, 2)), (66, (.iaload, 1)), (67, (.iload_n 2, 1)), (68, (.if_icmp .ne 7, 3)), (71, (.iconst 1, 1)), (72, (.goto 4, 3)), (75, (.iconst 0, 1)), (76, (.istore_n 3, 1)), (77, (.iinc 4 1, 3))], [(80, (.goto (-44), 3)), (83, (.iload_n 3, 1)), (84, (.ireturn, 1))]]
/-- Model.fits (II)I -/
def jc188 : jCode := [[(0, (.aload_n 0, 1)), (1, (.iload_n 1, 1)), (2, (.invokevirtual 196, 3)), (5, (.ifCond .eq 12, 3)), (8, (.iload_n 2, 1)), (9, (.iconst 0, 1)), (10, (.iconst 1, 1)), (11, (.invokestatic 81, 3)), (14, (.ifCond .ne 5, 3))], [(17, (.iconst (-1), 1)), (18, (.ireturn, 1)), (19, (.aload_n 0, 1)), (20, (.getfield 35, 3)), (23, (.iload_n 1, 1)), (24, (.iaload, 1)), (25, (.istore_n 3, 1)), (26, (.aload_n 0, 1)), (27, (.getfield 32, 3)), (30, (.iload_n 1, 1)), (31, (.iaload, 1))], [(32, (.istore 4, 2)), (34, (.iconst 0, 1)), (35, (.istore 5, 2)), (37, (.iconst 0, 1)), (38, (.istore 6, 2)), (40, (.iload 6, 2)), (42, (.iload_n 2, 1)), (43, (.ifCond .ne 8, 3)), (46, (.bipush 30, 2))], [(48, (.goto 4, 3)), (51, (.iconst 3, 1)), (52, (.if_icmp .gt 63, 3)), (55, (.aload_n 0, 1)), (56, (.getfield 35, 3)), (59, (.iload_n 1, 1)), (60, (.iload_n 2, 1)), (61, (.ifCond .ne 8, 3))], [(64, (.iload 6, 2)), (66, (.goto 4, 3)), (69, (.iload_n 3, 1)), (70, (.iastore, 1)), (71, (.aload_n 0, 1)), (72, (.getfield 32, 3)), (75, (.iload_n 1, 1)), (76, (.iload_n 2, 1)), (77, (.ifCond .ne 8, 3))], [(80, (.iload 4, 2)), (82, (.goto 5, 3)), (85, (.iload 6, 2)), (87, (.iastore, 1)), (88, (.iload 5, 2)), (90, (.aload_n 0, 1)), (91, (.iload_n 1, 1)), (92, (.invokevirtual 245, 3)), (95, (.ifCond .eq 10, 3))], [(98, (.iconst 1, 1)), (99, (.iload 6, 2)), (101, (.ishl, 1)), (102, (.goto 4, 3)), (105, (.iconst 0, 1)), (106, (.ior, 1)), (107, (.istore 5, 2)), (109, (.iinc 6 1, 3))], [(112, (.goto (-72), 3)), (115, (.aload_n 0, 1)), (116, (.getfield 35, 3)), (119, (.iload_n 1, 1)), (120, (.iload_n 3, 1)), (121, (.iastore, 1)), (122, (.aload_n 0, 1)), (123, (.getfield 32, 3)), (126, (.iload_n 1, 1)), (127, (.iload 4, 2))], [(129, (.iastore, 1)), (130, (.iload 5, 2)), (132, (.ireturn, 1))]]
/-- Model.coughs (II)I -/
def jc189 : jCode := [[(0, (.iload_n 1, 1)), (1, (.iconst 0, 1)), (2, (.bipush 10, 2)), (4, (.invokestatic 81, 3)), (7, (.ifCond .eq 12, 3)), (10, (.iload_n 2, 1)), (11, (.iconst 0, 1)), (12, (.iconst 1, 1)), (13, (.invokestatic 81, 3))], [(16, (.ifCond .ne 5, 3)), (19, (.iconst (-1), 1)), (20, (.ireturn, 1)), (21, (.iconst 0, 1)), (22, (.istore_n 3, 1)), (23, (.iconst 1, 1)), (24, (.istore 4, 2)), (26, (.iconst 0, 1)), (27, (.istore 5, 2)), (29, (.iload 5, 2)), (31, (.iconst 1, 1))], [(32, (.aload_n 0, 1)), (33, (.getfield 26, 3)), (36, (.iconst 0, 1)), (37, (.iaload, 1)), (38, (.ishl, 1)), (39, (.if_icmp .ge 125, 3)), (42, (.iconst 1, 1)), (43, (.istore 6, 2)), (45, (.iconst 0, 1)), (46, (.istore 7, 2))], [(48, (.iload 7, 2)), (50, (.aload_n 0, 1)), (51, (.getfield 26, 3)), (54, (.iconst 0, 1)), (55, (.iaload, 1)), (56, (.if_icmp .ge 71, 3)), (59, (.iload 5, 2)), (61, (.iload 7, 2)), (63, (.ishr, 1))], [(64, (.iconst 1, 1)), (65, (.iand, 1)), (66, (.iconst 1, 1)), (67, (.if_icmp .ne 7, 3)), (70, (.iconst 1, 1)), (71, (.goto 4, 3)), (74, (.iconst 0, 1)), (75, (.istore 8, 2)), (77, (.iload 6, 2)), (79, (.aload_n 0, 1))], [(80, (.aload_n 0, 1)), (81, (.getfield 41, 3)), (84, (.iload 7, 2)), (86, (.invokevirtual 160, 3)), (89, (.ifCond .eq 19, 3)), (92, (.iload 8, 2)), (94, (.ifCond .eq 7, 3))], [(97, (.iload_n 1, 1)), (98, (.goto 20, 3)), (101, (.bipush 10, 2)), (103, (.iload_n 1, 1)), (104, (.isub, 1)), (105, (.goto 13, 3)), (108, (.iload 8, 2)), (110, (.ifCond .eq 7, 3))], [(113, (.iconst 0, 1)), (114, (.goto 4, 3)), (117, (.iconst 1, 1)), (118, (.imul, 1)), (119, (.istore 6, 2)), (121, (.iinc 7 1, 3)), (124, (.goto (-76), 3)), (127, (.aload_n 0, 1))], [(128, (.iload 5, 2)), (130, (.putfield 163, 3)), (133, (.iload_n 3, 1)), (134, (.iload 6, 2)), (136, (.ifCond .le 19, 3)), (139, (.aload_n 0, 1)), (140, (.aload_n 0, 1)), (141, (.getfield 41, 3))], [(144, (.invokevirtual 180, 3)), (147, (.ifCond .eq 8, 3)), (150, (.iload 6, 2)), (152, (.goto 4, 3)), (155, (.iconst 0, 1)), (156, (.iadd, 1)), (157, (.istore_n 3, 1)), (158, (.iinc 5 1, 3))], [(161, (.goto (-132), 3)), (164, (.aload_n 0, 1)), (165, (.iconst 0, 1)), (166, (.putfield 163, 3)), (169, (.iconst 0, 1)), (170, (.istore 5, 2)), (172, (.iload 5, 2)), (174, (.aload_n 0, 1)), (175, (.getfield 26, 3))], [(178, (.iconst 0, 1)), (179, (.iaload, 1)), (180, (.if_icmp .ge 33, 3)), (183, (.iload 4, 2)), (185, (.aload_n 0, 1)), (186, (.aload_n 0, 1)), (187, (.getfield 41, 3)), (190, (.iload 5, 2))], [(192, (.invokevirtual 160, 3)), (195, (.ifCond .eq 8, 3)), (198, (.bipush 10, 2)), (200, (.goto 4, 3)), (203, (.iconst 1, 1)), (204, (.imul, 1)), (205, (.istore 4, 2)), (207, (.iinc 5 1, 3))], [(210, (.goto (-38), 3)), (213, (.iload_n 3, 1)), (214, (.istore 5, 2)), (216, (.iload 4, 2)), (218, (.istore 6, 2)), (220, (.iload 6, 2)), (222, (.ifCond .eq 21, 3))], [(225, (.iload 5, 2)), (227, (.iload 6, 2)), (229, (.irem, 1)), (230, (.istore 7, 2)), (232, (.iload 6, 2)), (234, (.istore 5, 2)), (236, (.iload 7, 2)), (238, (.istore 6, 2))], [(240, (.goto (-20), 3)), (243, (.iload_n 2, 1)), (244, (.ifCond .ne 10, 3)), (247, (.iload_n 3, 1)), (248, (.iload 5, 2)), (250, (.idiv, 1)), (251, (.goto 8, 3)), (254, (.iload 4, 2))], [(256, (.iload 5, 2)), (258, (.idiv, 1)), (259, (.ireturn, 1))]]
/-- Model.turn (I)I -/
def jc190 : jCode := [[(0, (.iload_n 1, 1)), (1, (.bipush 8, 2)), (3, (.idiv, 1)), (4, (.aload_n 0, 1)), (5, (.getfield 13, 3)), (8, (.iconst 0, 1)), (9, (.iaload, 1)), (10, (.irem, 1)), (11, (.istore_n 2, 1)), (12, (.iload_n 1, 1)), (13, (.bipush 8, 2)), (15, (.idiv, 1))], [(16, (.aload_n 0, 1)), (17, (.getfield 26, 3)), (20, (.iconst 0, 1)), (21, (.iaload, 1)), (22, (.irem, 1)), (23, (.istore_n 3, 1)), (24, (.iload_n 1, 1)), (25, (.bipush 64, 2)), (27, (.idiv, 1)), (28, (.aload_n 0, 1)), (29, (.getfield 26, 3))], [(32, (.iconst 0, 1)), (33, (.iaload, 1)), (34, (.irem, 1)), (35, (.istore 4, 2)), (37, (.aload_n 0, 1)), (38, (.getfield 50, 3)), (41, (.iload_n 2, 1)), (42, (.invokestatic 192, 3)), (45, (.istore 5, 2)), (47, (.iload_n 1, 1))], [(48, (.bipush 8, 2)), (50, (.irem, 1)), (51, (.tableswitch 115 0 4 #[33, 33, 57, 75, 94], 33))], [], [(84, (.iload 5, 2)), (86, (.bipush (-4), 2)), (88, (.if_icmp .ne 18, 3)), (91, (.aload_n 0, 1)), (92, (.getfield 50, 3)), (95, (.iload_n 2, 1))], [(96, (.aload_n 0, 1)), (97, (.getfield 50, 3)), (100, (.bipush 7, 2)), (102, (.iaload, 1)), (103, (.invokestatic 205, 3)), (106, (.iconst 0, 1)), (107, (.ireturn, 1)), (108, (.iload 5, 2)), (110, (.bipush (-4), 2))], [(112, (.if_icmp .eq 12, 3)), (115, (.aload_n 0, 1)), (116, (.getfield 50, 3)), (119, (.iload 5, 2)), (121, (.invokestatic 208, 3)), (124, (.iconst 0, 1)), (125, (.ireturn, 1)), (126, (.iload_n 3, 1)), (127, (.iload 4, 2))], [(129, (.if_icmp .eq 14, 3)), (132, (.aload_n 0, 1)), (133, (.aload_n 0, 1)), (134, (.getfield 50, 3)), (137, (.iload_n 3, 1)), (138, (.iload 4, 2)), (140, (.invokevirtual 218, 3)), (143, (.iconst 0, 1))], [(144, (.ireturn, 1)), (145, (.aload_n 0, 1)), (146, (.getfield 50, 3)), (149, (.iload_n 3, 1)), (150, (.invokestatic 221, 3)), (153, (.ifCond .eq 11, 3)), (156, (.aload_n 0, 1)), (157, (.getfield 50, 3))], [(160, (.iload_n 3, 1)), (161, (.invokestatic 224, 3)), (164, (.iconst 0, 1)), (165, (.ireturn, 1)), (166, (.aload_n 0, 1)), (167, (.aload_n 0, 1)), (168, (.getfield 50, 3)), (171, (.invokevirtual 212, 3)), (174, (.ifCond .eq 18, 3))], [(177, (.aload_n 0, 1)), (178, (.aload_n 0, 1)), (179, (.getfield 50, 3)), (182, (.invokevirtual 215, 3)), (185, (.ifCond .eq 7, 3)), (188, (.iconst 1, 1)), (189, (.goto 4, 3))], [(192, (.iconst 0, 1)), (193, (.ireturn, 1))]]
/-- Model.season (III)I -/
def jc191 : jCode := [[(0, (.iload_n 1, 1)), (1, (.iconst 0, 1)), (2, (.sipush 9999, 3)), (5, (.invokestatic 81, 3)), (8, (.ifCond .eq 22, 3)), (11, (.iload_n 2, 1)), (12, (.iconst 1, 1)), (13, (.bipush 40, 2)), (15, (.invokestatic 81, 3))], [(18, (.ifCond .eq 12, 3)), (21, (.iload_n 3, 1)), (22, (.iconst 0, 1)), (23, (.iconst 1, 1)), (24, (.invokestatic 81, 3)), (27, (.ifCond .ne 5, 3)), (30, (.iconst (-1), 1)), (31, (.ireturn, 1))], [(32, (.aload_n 0, 1)), (33, (.invokevirtual 227, 3)), (36, (.iconst 0, 1)), (37, (.istore 4, 2)), (39, (.iconst 0, 1)), (40, (.istore 5, 2)), (42, (.iload 5, 2)), (44, (.iload_n 2, 1)), (45, (.if_icmp .ge 46, 3))], [(48, (.ldc2_w 248, 3)), (51, (.iload_n 1, 1)), (52, (.i2l, 1)), (53, (.lmul, 1)), (54, (.ldc2_w 250, 3)), (57, (.iload 5, 2)), (59, (.i2l, 1)), (60, (.lmul, 1)), (61, (.ladd, 1)), (62, (.lconst 1, 1)), (63, (.ladd, 1))], [(64, (.lstore 6, 2)), (66, (.iload 4, 2)), (68, (.aload_n 0, 1)), (69, (.lload 6, 2)), (71, (.lload 6, 2)), (73, (.lmul, 1)), (74, (.ldc2_w 252, 3)), (77, (.lrem, 1)), (78, (.l2i, 1)), (79, (.invokevirtual 254, 3))], [(82, (.iadd, 1)), (83, (.istore 4, 2)), (85, (.iinc 5 1, 3)), (88, (.goto (-46), 3)), (91, (.iload_n 3, 1)), (92, (.ifCond .ne 8, 3)), (95, (.iload 4, 2))], [(97, (.goto 11, 3)), (100, (.aload_n 0, 1)), (101, (.aload_n 0, 1)), (102, (.getfield 50, 3)), (105, (.invokevirtual 242, 3)), (108, (.ireturn, 1))]]
/-- Model.keep ()I -/
def jc192 : jCode := [[(0, (.aload_n 0, 1)), (1, (.getfield 146, 3)), (4, (.iconst 2, 1)), (5, (.if_icmp .ne 6, 3)), (8, (.bipush (-3), 2)), (10, (.ireturn, 1)), (11, (.iconst 0, 1)), (12, (.istore_n 1, 1)), (13, (.iload_n 1, 1)), (14, (.bipush 39, 2))], [(16, (.if_icmp .ge 29, 3)), (19, (.aload_n 0, 1)), (20, (.getfield 47, 3)), (23, (.bipush 39, 2)), (25, (.aload_n 0, 1)), (26, (.getfield 146, 3)), (29, (.imul, 1)), (30, (.iload_n 1, 1)), (31, (.iadd, 1))], [(32, (.aload_n 0, 1)), (33, (.getfield 41, 3)), (36, (.iload_n 1, 1)), (37, (.iaload, 1)), (38, (.iastore, 1)), (39, (.iinc 1 1, 3)), (42, (.goto (-29), 3)), (45, (.aload_n 0, 1)), (46, (.dup, 1)), (47, (.getfield 146, 3))], [(50, (.iconst 1, 1)), (51, (.iadd, 1)), (52, (.putfield 146, 3)), (55, (.aload_n 0, 1)), (56, (.getfield 146, 3)), (59, (.ireturn, 1))]]
/-- Model.back ()I -/
def jc193 : jCode := [[(0, (.aload_n 0, 1)), (1, (.getfield 146, 3)), (4, (.ifCond .ne 6, 3)), (7, (.bipush (-2), 2)), (9, (.ireturn, 1)), (10, (.aload_n 0, 1)), (11, (.dup, 1)), (12, (.getfield 146, 3)), (15, (.iconst 1, 1))], [(16, (.isub, 1)), (17, (.putfield 146, 3)), (20, (.iconst 0, 1)), (21, (.istore_n 1, 1)), (22, (.iload_n 1, 1)), (23, (.bipush 39, 2)), (25, (.if_icmp .ge 29, 3)), (28, (.aload_n 0, 1)), (29, (.getfield 41, 3))], [(32, (.iload_n 1, 1)), (33, (.aload_n 0, 1)), (34, (.getfield 47, 3)), (37, (.bipush 39, 2)), (39, (.aload_n 0, 1)), (40, (.getfield 146, 3)), (43, (.imul, 1)), (44, (.iload_n 1, 1)), (45, (.iadd, 1)), (46, (.iaload, 1)), (47, (.iastore, 1))], [(48, (.iinc 1 1, 3)), (51, (.goto (-29), 3)), (54, (.aload_n 0, 1)), (55, (.iconst 0, 1)), (56, (.putfield 143, 3)), (59, (.aload_n 0, 1)), (60, (.getfield 146, 3)), (63, (.ireturn, 1))]]
/-- Model.count (I)I -/
def jc194 : jCode := [[(0, (.iload_n 1, 1)), (1, (.tableswitch 147 0 11 #[63, 70, 77, 85, 93, 101, 109, 118, 127, 132, 137, 142], 63))], [], [], [], [(64, (.aload_n 0, 1)), (65, (.getfield 13, 3)), (68, (.iconst 0, 1)), (69, (.iaload, 1)), (70, (.ireturn, 1)), (71, (.aload_n 0, 1)), (72, (.getfield 26, 3)), (75, (.iconst 0, 1)), (76, (.iaload, 1)), (77, (.ireturn, 1)), (78, (.aload_n 0, 1)), (79, (.getfield 41, 3))], [(82, (.bipush 7, 2)), (84, (.iaload, 1)), (85, (.ireturn, 1)), (86, (.aload_n 0, 1)), (87, (.getfield 41, 3)), (90, (.bipush 8, 2)), (92, (.iaload, 1)), (93, (.ireturn, 1)), (94, (.aload_n 0, 1)), (95, (.getfield 41, 3))], [(98, (.bipush 9, 2)), (100, (.iaload, 1)), (101, (.ireturn, 1)), (102, (.aload_n 0, 1)), (103, (.getfield 41, 3)), (106, (.bipush 10, 2)), (108, (.iaload, 1)), (109, (.ireturn, 1)), (110, (.aload_n 0, 1)), (111, (.aload_n 0, 1))], [(112, (.getfield 41, 3)), (115, (.invokevirtual 177, 3)), (118, (.ireturn, 1)), (119, (.aload_n 0, 1)), (120, (.aload_n 0, 1)), (121, (.getfield 41, 3)), (124, (.invokevirtual 242, 3)), (127, (.ireturn, 1))], [(128, (.aload_n 0, 1)), (129, (.getfield 149, 3)), (132, (.ireturn, 1)), (133, (.aload_n 0, 1)), (134, (.getfield 143, 3)), (137, (.ireturn, 1)), (138, (.aload_n 0, 1)), (139, (.getfield 146, 3)), (142, (.ireturn, 1)), (143, (.aload_n 0, 1))], [(144, (.getfield 85, 3)), (147, (.ireturn, 1)), (148, (.iconst (-1), 1)), (149, (.ireturn, 1))]]
/-- Integer.bitCount (I)I -/
def jc195 : jCode := [[(0, (.iload_n 0, 1)), (1, (.iload_n 0, 1)), (2, (.iconst 1, 1)), (3, (.iushr, 1)), (4, (.ldc_w 265, 3)), (7, (.iand, 1)), (8, (.isub, 1)), (9, (.istore_n 0, 1)), (10, (.iload_n 0, 1)), (11, (.ldc_w 266, 3)), (14, (.iand, 1)), (15, (.iload_n 0, 1))], [(16, (.iconst 2, 1)), (17, (.iushr, 1)), (18, (.ldc_w 266, 3)), (21, (.iand, 1)), (22, (.iadd, 1)), (23, (.istore_n 0, 1)), (24, (.iload_n 0, 1)), (25, (.iload_n 0, 1)), (26, (.iconst 4, 1)), (27, (.iushr, 1)), (28, (.iadd, 1)), (29, (.ldc_w 267, 3))], [(32, (.iand, 1)), (33, (.istore_n 0, 1)), (34, (.iload_n 0, 1)), (35, (.iload_n 0, 1)), (36, (.bipush 8, 2)), (38, (.iushr, 1)), (39, (.iadd, 1)), (40, (.istore_n 0, 1)), (41, (.iload_n 0, 1)), (42, (.iload_n 0, 1)), (43, (.bipush 16, 2)), (45, (.iushr, 1)), (46, (.iadd, 1)), (47, (.istore_n 0, 1))], [(48, (.iload_n 0, 1)), (49, (.bipush 63, 2)), (51, (.iand, 1)), (52, (.ireturn, 1))]]
/-- Arrays.fill ([II)V -/
def jc196 : jCode := [[(0, (.iconst 0, 1)), (1, (.istore_n 2, 1)), (2, (.aload_n 0, 1)), (3, (.arraylength, 1)), (4, (.istore_n 3, 1)), (5, (.iload_n 2, 1)), (6, (.iload_n 3, 1)), (7, (.if_icmp .ge 13, 3)), (10, (.aload_n 0, 1)), (11, (.iload_n 2, 1)), (12, (.iload_n 1, 1)), (13, (.iastore, 1)), (14, (.iinc 2 1, 3))], [(17, (.goto (-12), 3)), (20, (.return_, 1))]]
/-- Law.law ([I)Z -/
def jc197 : jCode := [[(0, (.new 7, 3)), (3, (.dup, 1)), (4, (.invokespecial 9, 3)), (7, (.astore_n 1, 1)), (8, (.new 10, 3)), (11, (.dup, 1)), (12, (.invokespecial 12, 3)), (15, (.astore_n 2, 1))], [(16, (.iconst 0, 1)), (17, (.istore_n 3, 1)), (18, (.iload_n 3, 1)), (19, (.aload_n 0, 1)), (20, (.arraylength, 1)), (21, (.iconst 4, 1)), (22, (.isub, 1)), (23, (.if_icmp .gt 787, 3)), (26, (.aload_n 0, 1)), (27, (.iload_n 3, 1)), (28, (.iaload, 1)), (29, (.bipush 31, 2)), (31, (.iand, 1))], [(32, (.tableswitch 772 0 27 #[128, 151, 164, 177, 190, 223, 256, 289, 312, 335, 358, 371, 404, 427, 440, 473, 496, 519, 532, 545, 568, 601, 614, 647, 680, 723, 736, 749], 128))], [], [], [], [], [], [], [], [(160, (.aload_n 1, 1)), (161, (.aload_n 0, 1)), (162, (.iload_n 3, 1)), (163, (.iconst 1, 1)), (164, (.iadd, 1)), (165, (.iaload, 1)), (166, (.invokevirtual 13, 3)), (169, (.aload_n 2, 1)), (170, (.aload_n 0, 1)), (171, (.iload_n 3, 1)), (172, (.iconst 1, 1)), (173, (.iadd, 1)), (174, (.iaload, 1)), (175, (.invokevirtual 17, 3))], [(178, (.if_icmp .eq 626, 3)), (181, (.iconst 0, 1)), (182, (.ireturn, 1)), (183, (.aload_n 1, 1)), (184, (.invokevirtual 18, 3)), (187, (.aload_n 2, 1)), (188, (.invokevirtual 22, 3)), (191, (.if_icmp .eq 613, 3))], [(194, (.iconst 0, 1)), (195, (.ireturn, 1)), (196, (.aload_n 1, 1)), (197, (.invokevirtual 23, 3)), (200, (.aload_n 2, 1)), (201, (.invokevirtual 26, 3)), (204, (.if_icmp .eq 600, 3)), (207, (.iconst 0, 1))], [(208, (.ireturn, 1)), (209, (.aload_n 1, 1)), (210, (.invokevirtual 27, 3)), (213, (.aload_n 2, 1)), (214, (.invokevirtual 30, 3)), (217, (.if_icmp .eq 587, 3)), (220, (.iconst 0, 1)), (221, (.ireturn, 1)), (222, (.aload_n 1, 1)), (223, (.aload_n 0, 1))], [(224, (.iload_n 3, 1)), (225, (.iconst 1, 1)), (226, (.iadd, 1)), (227, (.iaload, 1)), (228, (.aload_n 0, 1)), (229, (.iload_n 3, 1)), (230, (.iconst 2, 1)), (231, (.iadd, 1)), (232, (.iaload, 1)), (233, (.invokevirtual 31, 3)), (236, (.aload_n 2, 1)), (237, (.aload_n 0, 1)), (238, (.iload_n 3, 1)), (239, (.iconst 1, 1))], [(240, (.iadd, 1)), (241, (.iaload, 1)), (242, (.aload_n 0, 1)), (243, (.iload_n 3, 1)), (244, (.iconst 2, 1)), (245, (.iadd, 1)), (246, (.iaload, 1)), (247, (.invokevirtual 35, 3)), (250, (.if_icmp .eq 554, 3)), (253, (.iconst 0, 1)), (254, (.ireturn, 1)), (255, (.aload_n 1, 1))], [(256, (.aload_n 0, 1)), (257, (.iload_n 3, 1)), (258, (.iconst 1, 1)), (259, (.iadd, 1)), (260, (.iaload, 1)), (261, (.aload_n 0, 1)), (262, (.iload_n 3, 1)), (263, (.iconst 2, 1)), (264, (.iadd, 1)), (265, (.iaload, 1)), (266, (.invokevirtual 36, 3)), (269, (.aload_n 2, 1)), (270, (.aload_n 0, 1)), (271, (.iload_n 3, 1))], [(272, (.iconst 1, 1)), (273, (.iadd, 1)), (274, (.iaload, 1)), (275, (.aload_n 0, 1)), (276, (.iload_n 3, 1)), (277, (.iconst 2, 1)), (278, (.iadd, 1)), (279, (.iaload, 1)), (280, (.invokevirtual 39, 3)), (283, (.if_icmp .eq 521, 3)), (286, (.iconst 0, 1)), (287, (.ireturn, 1))], [(288, (.aload_n 1, 1)), (289, (.aload_n 0, 1)), (290, (.iload_n 3, 1)), (291, (.iconst 1, 1)), (292, (.iadd, 1)), (293, (.iaload, 1)), (294, (.aload_n 0, 1)), (295, (.iload_n 3, 1)), (296, (.iconst 2, 1)), (297, (.iadd, 1)), (298, (.iaload, 1)), (299, (.invokevirtual 40, 3)), (302, (.aload_n 2, 1)), (303, (.aload_n 0, 1))], [(304, (.iload_n 3, 1)), (305, (.iconst 1, 1)), (306, (.iadd, 1)), (307, (.iaload, 1)), (308, (.aload_n 0, 1)), (309, (.iload_n 3, 1)), (310, (.iconst 2, 1)), (311, (.iadd, 1)), (312, (.iaload, 1)), (313, (.invokevirtual 43, 3)), (316, (.if_icmp .eq 488, 3)), (319, (.iconst 0, 1))], [(320, (.ireturn, 1)), (321, (.aload_n 1, 1)), (322, (.aload_n 0, 1)), (323, (.iload_n 3, 1)), (324, (.iconst 1, 1)), (325, (.iadd, 1)), (326, (.iaload, 1)), (327, (.invokevirtual 44, 3)), (330, (.aload_n 2, 1)), (331, (.aload_n 0, 1)), (332, (.iload_n 3, 1)), (333, (.iconst 1, 1)), (334, (.iadd, 1)), (335, (.iaload, 1))], [(336, (.invokevirtual 47, 3)), (339, (.if_icmp .eq 465, 3)), (342, (.iconst 0, 1)), (343, (.ireturn, 1)), (344, (.aload_n 1, 1)), (345, (.aload_n 0, 1)), (346, (.iload_n 3, 1)), (347, (.iconst 1, 1)), (348, (.iadd, 1)), (349, (.iaload, 1)), (350, (.invokevirtual 48, 3))], [(353, (.aload_n 2, 1)), (354, (.aload_n 0, 1)), (355, (.iload_n 3, 1)), (356, (.iconst 1, 1)), (357, (.iadd, 1)), (358, (.iaload, 1)), (359, (.invokevirtual 51, 3)), (362, (.if_icmp .eq 442, 3)), (365, (.iconst 0, 1)), (366, (.ireturn, 1)), (367, (.aload_n 1, 1))], [(368, (.aload_n 0, 1)), (369, (.iload_n 3, 1)), (370, (.iconst 1, 1)), (371, (.iadd, 1)), (372, (.iaload, 1)), (373, (.invokevirtual 52, 3)), (376, (.aload_n 2, 1)), (377, (.aload_n 0, 1)), (378, (.iload_n 3, 1)), (379, (.iconst 1, 1)), (380, (.iadd, 1)), (381, (.iaload, 1)), (382, (.invokevirtual 55, 3))], [(385, (.if_icmp .eq 419, 3)), (388, (.iconst 0, 1)), (389, (.ireturn, 1)), (390, (.aload_n 1, 1)), (391, (.invokevirtual 56, 3)), (394, (.aload_n 2, 1)), (395, (.invokevirtual 59, 3)), (398, (.if_icmp .eq 406, 3))], [(401, (.iconst 0, 1)), (402, (.ireturn, 1)), (403, (.aload_n 1, 1)), (404, (.aload_n 0, 1)), (405, (.iload_n 3, 1)), (406, (.iconst 1, 1)), (407, (.iadd, 1)), (408, (.iaload, 1)), (409, (.aload_n 0, 1)), (410, (.iload_n 3, 1)), (411, (.iconst 2, 1)), (412, (.iadd, 1)), (413, (.iaload, 1)), (414, (.invokevirtual 60, 3))], [(417, (.aload_n 2, 1)), (418, (.aload_n 0, 1)), (419, (.iload_n 3, 1)), (420, (.iconst 1, 1)), (421, (.iadd, 1)), (422, (.iaload, 1)), (423, (.aload_n 0, 1)), (424, (.iload_n 3, 1)), (425, (.iconst 2, 1)), (426, (.iadd, 1)), (427, (.iaload, 1)), (428, (.invokevirtual 63, 3)), (431, (.if_icmp .eq 373, 3))], [(434, (.iconst 0, 1)), (435, (.ireturn, 1)), (436, (.aload_n 1, 1)), (437, (.aload_n 0, 1)), (438, (.iload_n 3, 1)), (439, (.iconst 1, 1)), (440, (.iadd, 1)), (441, (.iaload, 1)), (442, (.invokevirtual 64, 3)), (445, (.aload_n 2, 1)), (446, (.aload_n 0, 1)), (447, (.iload_n 3, 1))], [(448, (.iconst 1, 1)), (449, (.iadd, 1)), (450, (.iaload, 1)), (451, (.invokevirtual 67, 3)), (454, (.if_icmp .eq 350, 3)), (457, (.iconst 0, 1)), (458, (.ireturn, 1)), (459, (.aload_n 1, 1)), (460, (.invokevirtual 68, 3)), (463, (.aload_n 2, 1))], [(464, (.invokevirtual 71, 3)), (467, (.if_icmp .eq 337, 3)), (470, (.iconst 0, 1)), (471, (.ireturn, 1)), (472, (.aload_n 1, 1)), (473, (.aload_n 0, 1)), (474, (.iload_n 3, 1)), (475, (.iconst 1, 1)), (476, (.iadd, 1)), (477, (.iaload, 1)), (478, (.aload_n 0, 1)), (479, (.iload_n 3, 1))], [(480, (.iconst 2, 1)), (481, (.iadd, 1)), (482, (.iaload, 1)), (483, (.invokevirtual 72, 3)), (486, (.aload_n 2, 1)), (487, (.aload_n 0, 1)), (488, (.iload_n 3, 1)), (489, (.iconst 1, 1)), (490, (.iadd, 1)), (491, (.iaload, 1)), (492, (.aload_n 0, 1)), (493, (.iload_n 3, 1)), (494, (.iconst 2, 1)), (495, (.iadd, 1))], [(496, (.iaload, 1)), (497, (.invokevirtual 75, 3)), (500, (.if_icmp .eq 304, 3)), (503, (.iconst 0, 1)), (504, (.ireturn, 1)), (505, (.aload_n 1, 1)), (506, (.aload_n 0, 1)), (507, (.iload_n 3, 1)), (508, (.iconst 1, 1)), (509, (.iadd, 1)), (510, (.iaload, 1)), (511, (.invokevirtual 76, 3))], [(514, (.aload_n 2, 1)), (515, (.aload_n 0, 1)), (516, (.iload_n 3, 1)), (517, (.iconst 1, 1)), (518, (.iadd, 1)), (519, (.iaload, 1)), (520, (.invokevirtual 79, 3)), (523, (.if_icmp .eq 281, 3)), (526, (.iconst 0, 1)), (527, (.ireturn, 1))], [(528, (.aload_n 1, 1)), (529, (.aload_n 0, 1)), (530, (.iload_n 3, 1)), (531, (.iconst 1, 1)), (532, (.iadd, 1)), (533, (.iaload, 1)), (534, (.invokevirtual 80, 3)), (537, (.aload_n 2, 1)), (538, (.aload_n 0, 1)), (539, (.iload_n 3, 1)), (540, (.iconst 1, 1)), (541, (.iadd, 1)), (542, (.iaload, 1)), (543, (.invokevirtual 83, 3))], [(546, (.if_icmp .eq 258, 3)), (549, (.iconst 0, 1)), (550, (.ireturn, 1)), (551, (.aload_n 1, 1)), (552, (.invokevirtual 84, 3)), (555, (.aload_n 2, 1)), (556, (.invokevirtual 87, 3)), (559, (.if_icmp .eq 245, 3))], [(562, (.iconst 0, 1)), (563, (.ireturn, 1)), (564, (.aload_n 1, 1)), (565, (.invokevirtual 88, 3)), (568, (.aload_n 2, 1)), (569, (.invokevirtual 91, 3)), (572, (.if_icmp .eq 232, 3)), (575, (.iconst 0, 1))], [(576, (.ireturn, 1)), (577, (.aload_n 1, 1)), (578, (.aload_n 0, 1)), (579, (.iload_n 3, 1)), (580, (.iconst 1, 1)), (581, (.iadd, 1)), (582, (.iaload, 1)), (583, (.invokevirtual 92, 3)), (586, (.aload_n 2, 1)), (587, (.aload_n 0, 1)), (588, (.iload_n 3, 1)), (589, (.iconst 1, 1)), (590, (.iadd, 1)), (591, (.iaload, 1))], [(592, (.invokevirtual 95, 3)), (595, (.if_icmp .eq 209, 3)), (598, (.iconst 0, 1)), (599, (.ireturn, 1)), (600, (.aload_n 1, 1)), (601, (.aload_n 0, 1)), (602, (.iload_n 3, 1)), (603, (.iconst 1, 1)), (604, (.iadd, 1)), (605, (.iaload, 1)), (606, (.aload_n 0, 1)), (607, (.iload_n 3, 1))], [(608, (.iconst 2, 1)), (609, (.iadd, 1)), (610, (.iaload, 1)), (611, (.invokevirtual 96, 3)), (614, (.aload_n 2, 1)), (615, (.aload_n 0, 1)), (616, (.iload_n 3, 1)), (617, (.iconst 1, 1)), (618, (.iadd, 1)), (619, (.iaload, 1)), (620, (.aload_n 0, 1)), (621, (.iload_n 3, 1)), (622, (.iconst 2, 1)), (623, (.iadd, 1))], [(624, (.iaload, 1)), (625, (.invokevirtual 99, 3)), (628, (.if_icmp .eq 176, 3)), (631, (.iconst 0, 1)), (632, (.ireturn, 1)), (633, (.aload_n 1, 1)), (634, (.invokevirtual 100, 3)), (637, (.aload_n 2, 1)), (638, (.invokevirtual 103, 3))], [(641, (.if_icmp .eq 163, 3)), (644, (.iconst 0, 1)), (645, (.ireturn, 1)), (646, (.aload_n 1, 1)), (647, (.aload_n 0, 1)), (648, (.iload_n 3, 1)), (649, (.iconst 1, 1)), (650, (.iadd, 1)), (651, (.iaload, 1)), (652, (.aload_n 0, 1)), (653, (.iload_n 3, 1)), (654, (.iconst 2, 1)), (655, (.iadd, 1))], [(656, (.iaload, 1)), (657, (.invokevirtual 104, 3)), (660, (.aload_n 2, 1)), (661, (.aload_n 0, 1)), (662, (.iload_n 3, 1)), (663, (.iconst 1, 1)), (664, (.iadd, 1)), (665, (.iaload, 1)), (666, (.aload_n 0, 1)), (667, (.iload_n 3, 1)), (668, (.iconst 2, 1)), (669, (.iadd, 1)), (670, (.iaload, 1)), (671, (.invokevirtual 107, 3))], [(674, (.if_icmp .eq 130, 3)), (677, (.iconst 0, 1)), (678, (.ireturn, 1)), (679, (.aload_n 1, 1)), (680, (.aload_n 0, 1)), (681, (.iload_n 3, 1)), (682, (.iconst 1, 1)), (683, (.iadd, 1)), (684, (.iaload, 1)), (685, (.aload_n 0, 1)), (686, (.iload_n 3, 1)), (687, (.iconst 2, 1))], [(688, (.iadd, 1)), (689, (.iaload, 1)), (690, (.invokevirtual 108, 3)), (693, (.aload_n 2, 1)), (694, (.aload_n 0, 1)), (695, (.iload_n 3, 1)), (696, (.iconst 1, 1)), (697, (.iadd, 1)), (698, (.iaload, 1)), (699, (.aload_n 0, 1)), (700, (.iload_n 3, 1)), (701, (.iconst 2, 1)), (702, (.iadd, 1)), (703, (.iaload, 1))], [(704, (.invokevirtual 111, 3)), (707, (.if_icmp .eq 97, 3)), (710, (.iconst 0, 1)), (711, (.ireturn, 1)), (712, (.aload_n 1, 1)), (713, (.aload_n 0, 1)), (714, (.iload_n 3, 1)), (715, (.iconst 1, 1)), (716, (.iadd, 1)), (717, (.iaload, 1)), (718, (.aload_n 0, 1)), (719, (.iload_n 3, 1))], [(720, (.iconst 2, 1)), (721, (.iadd, 1)), (722, (.iaload, 1)), (723, (.aload_n 0, 1)), (724, (.iload_n 3, 1)), (725, (.iconst 3, 1)), (726, (.iadd, 1)), (727, (.iaload, 1)), (728, (.invokevirtual 112, 3)), (731, (.aload_n 2, 1)), (732, (.aload_n 0, 1)), (733, (.iload_n 3, 1)), (734, (.iconst 1, 1)), (735, (.iadd, 1))], [(736, (.iaload, 1)), (737, (.aload_n 0, 1)), (738, (.iload_n 3, 1)), (739, (.iconst 2, 1)), (740, (.iadd, 1)), (741, (.iaload, 1)), (742, (.aload_n 0, 1)), (743, (.iload_n 3, 1)), (744, (.iconst 3, 1)), (745, (.iadd, 1)), (746, (.iaload, 1)), (747, (.invokevirtual 116, 3)), (750, (.if_icmp .eq 54, 3))], [(753, (.iconst 0, 1)), (754, (.ireturn, 1)), (755, (.aload_n 1, 1)), (756, (.invokevirtual 117, 3)), (759, (.aload_n 2, 1)), (760, (.invokevirtual 120, 3)), (763, (.if_icmp .eq 41, 3)), (766, (.iconst 0, 1)), (767, (.ireturn, 1))], [(768, (.aload_n 1, 1)), (769, (.invokevirtual 121, 3)), (772, (.aload_n 2, 1)), (773, (.invokevirtual 124, 3)), (776, (.if_icmp .eq 28, 3)), (779, (.iconst 0, 1)), (780, (.ireturn, 1)), (781, (.aload_n 1, 1)), (782, (.aload_n 0, 1)), (783, (.iload_n 3, 1))], [(784, (.iconst 1, 1)), (785, (.iadd, 1)), (786, (.iaload, 1)), (787, (.invokevirtual 125, 3)), (790, (.aload_n 2, 1)), (791, (.aload_n 0, 1)), (792, (.iload_n 3, 1)), (793, (.iconst 1, 1)), (794, (.iadd, 1)), (795, (.iaload, 1)), (796, (.invokevirtual 128, 3)), (799, (.if_icmp .eq 5, 3))], [(802, (.iconst 0, 1)), (803, (.ireturn, 1)), (804, (.iinc 3 4, 3)), (807, (.goto (-789), 3)), (810, (.iconst 1, 1)), (811, (.ireturn, 1))]]
/-- Object.init ()V -/
def jc198 : jCode := [[(0, (.return_, 1))]]
def jCodeT : List (jCode) := [jc0, jc1, jc2, jc3, jc4, jc5, jc6, jc7, jc8, jc9, jc10, jc11, jc12, jc13, jc14, jc15, jc16, jc17, jc18, jc19, jc20, jc21, jc22, jc23, jc24, jc25, jc26, jc27, jc28, jc29, jc30, jc31, jc32, jc33, jc34, jc35, jc36, jc37, jc38, jc39, jc40, jc41, jc42, jc43, jc44, jc45, jc46, jc47, jc48, jc49, jc50, jc51, jc52, jc53, jc54, jc55, jc56, jc57, jc58, jc59, jc60, jc61, jc62, jc63, jc64, jc65, jc66, jc67, jc68, jc69, jc70, jc71, jc72, jc73, jc74, jc75, jc76, jc77, jc78, jc79, jc80, jc81, jc82, jc83, jc84, jc85, jc86, jc87, jc88, jc89, jc90, jc91, jc92, jc93, jc94, jc95, jc96, jc97, jc98, jc99, jc100, jc101, jc102, jc103, jc104, jc105, jc106, jc107, jc108, jc109, jc110, jc111, jc112, jc113, jc114, jc115, jc116, jc117, jc118, jc119, jc120, jc121, jc122, jc123, jc124, jc125, jc126, jc127, jc128, jc129, jc130, jc131, jc132, jc133, jc134, jc135, jc136, jc137, jc138, jc139, jc140, jc141, jc142, jc143, jc144, jc145, jc146, jc147, jc148, jc149, jc150, jc151, jc152, jc153, jc154, jc155, jc156, jc157, jc158, jc159, jc160, jc161, jc162, jc163, jc164, jc165, jc166, jc167, jc168, jc169, jc170, jc171, jc172, jc173, jc174, jc175, jc176, jc177, jc178, jc179, jc180, jc181, jc182, jc183, jc184, jc185, jc186, jc187, jc188, jc189, jc190, jc191, jc192, jc193, jc194, jc195, jc196, jc197, jc198]
def jBytesT : List (ByteArray) := [cX0_init, cX0_weigh, cX0_weightOf, cX0_canCough, cX0_commonDivisor, cX0_playSeason, cX0_takeDraw, cX1_init, cX1_empty, cX1_copy, cX1_tellScene, cX1_tellSeat, cX1_isScene, cX1_isSeat, cX1_placeOnBill, cX1_placeInLine, cX1_isBilled, cX1_mount, cX1_strike, cX1_trade, cX1_canEngage, cX1_engage, cX1_claqueurs, cX1_bindings, cX1_clauseBit, cX1_canOpen, cX1_settle, cX1_tire, cX1_bindAll, cX1_bind, cX2_init, cX2_push, cX2_pop, cX3_init, cX3_find, cX3_patientAlone, cX3_tryLine, cX3_nextLine, cX4_init, cX4_begin, cX4_copy, cX4_unfold, cX4_stage, cX4_carries, cX4_watch, cX4_leave, cX4_bore, cX4_isDrivenOut, cX5_init, cX5_fewestClaques, cX5_fatalCut, cX5_nightsAhead, cX5_findAddition, cX5_tryAddition, cX5_fittingPatiences, cX5_fittingTastes, cX5_trialAgrees, cX5_trialPasses, cX6_init, cX6_at, cX6_put, cX6_placeOf, cX6_trade, cX6_insert, cX6_remove, cX6_clear, cX6_numberThrough, cX6_copy, cX7_init, cX7_find, cX7_extend, cX7_endures, cX7_evening, cX7_bindable, cX7_note, cX8_init, cX8_note, cX8_agree, cX9_init, cX9_append, cX9_read, cX9_readItem, cX9_readScene, cX9_readSeat, cX9_readBill, cX9_readTill, cX9_number, cX9_next, cX9_figure, cX10_init, cX10_write, cX10_wipe, cX10_fault, cX10_lay, cX10_scene, cX10_seat, cX10_tonight, cX10_passes, cX10_add, cX10_cut, cX10_play, cX10_swap, cX10_hire, cX10_undo, cX10_soonest, cX10_seating, cX10_claques, cX10_falls, cX10_run, cX10_most, cX10_see, cX10_forget, cX10_fits, cX10_coughs, cX10_season, cX10_keep, cX10_back, cX10_count, cX10_open, cX10_remember, cX10_within, cX10_isIn, cX11_init, cX11_in, cX11_write, cX11_wipe, cX11_here, cX11_isFigure, cX11_due, cX11_number, cX11_readScene, cX11_readSeat, cX11_readBill, cX11_readItem, cX11_read, cX11_fault, cX11_tellScene, cX11_chair, cX11_onBill, cX11_first, cX11_takeDraft, cX11_lay, cX11_take, cX11_isScene, cX11_isSeat, cX11_placeOn, cX11_placeIn, cX11_bitsOf, cX11_claquesOf, cX11_boundOf, cX11_isGone, cX11_bore, cX11_canLeave, cX11_settle, cX11_go, cX11_doesPass, cX11_bind, cX11_canPlay, cX11_playOn, cX11_scene, cX11_seat, cX11_tonight, cX11_passes, cX11_know, cX11_putOn, cX11_takeOff, cX11_change, cX11_canHire, cX11_hireFor, cX11_add, cX11_cut, cX11_play, cX11_swap, cX11_hire, cX11_undo, cX11_clausesTried, cX11_minutesTried, cX11_nextBill, cX11_soonest, cX11_nextRow, cX11_seating, cX11_claques, cX11_falls, cX11_run, cX11_most, cX11_see, cX11_forget, cX11_isSo, cX11_fits, cX11_coughs, cX11_turn, cX11_season, cX11_keep, cX11_back, cX11_count, cJ6_bitCount_0f7a4, cJ7_fill_53178, cL_law, jObjCode]
def jYT : List (MethodName) := [yX0_init, yX0_weigh, yX0_weightOf, yX0_canCough, yX0_commonDivisor, yX0_playSeason, yX0_takeDraw, yX1_init, yX1_empty, yX1_copy, yX1_tellScene, yX1_tellSeat, yX1_isScene, yX1_isSeat, yX1_placeOnBill, yX1_placeInLine, yX1_isBilled, yX1_mount, yX1_strike, yX1_trade, yX1_canEngage, yX1_engage, yX1_claqueurs, yX1_bindings, yX1_clauseBit, yX1_canOpen, yX1_settle, yX1_tire, yX1_bindAll, yX1_bind, yX2_init, yX2_push, yX2_pop, yX3_init, yX3_find, yX3_patientAlone, yX3_tryLine, yX3_nextLine, yX4_init, yX4_begin, yX4_copy, yX4_unfold, yX4_stage, yX4_carries, yX4_watch, yX4_leave, yX4_bore, yX4_isDrivenOut, yX5_init, yX5_fewestClaques, yX5_fatalCut, yX5_nightsAhead, yX5_findAddition, yX5_tryAddition, yX5_fittingPatiences, yX5_fittingTastes, yX5_trialAgrees, yX5_trialPasses, yX6_init, yX6_at, yX6_put, yX6_placeOf, yX6_trade, yX6_insert, yX6_remove, yX6_clear, yX6_numberThrough, yX6_copy, yX7_init, yX7_find, yX7_extend, yX7_endures, yX7_evening, yX7_bindable, yX7_note, yX8_init, yX8_note, yX8_agree, yX9_init, yX9_append, yX9_read, yX9_readItem, yX9_readScene, yX9_readSeat, yX9_readBill, yX9_readTill, yX9_number, yX9_next, yX9_figure, yX10_init, yX10_write, yX10_wipe, yX10_fault, yX10_lay, yX10_scene, yX10_seat, yX10_tonight, yX10_passes, yX10_add, yX10_cut, yX10_play, yX10_swap, yX10_hire, yX10_undo, yX10_soonest, yX10_seating, yX10_claques, yX10_falls, yX10_run, yX10_most, yX10_see, yX10_forget, yX10_fits, yX10_coughs, yX10_season, yX10_keep, yX10_back, yX10_count, yX10_open, yX10_remember, yX10_within, yX10_isIn, yX11_init, yX11_in, yX11_write, yX11_wipe, yX11_here, yX11_isFigure, yX11_due, yX11_number, yX11_readScene, yX11_readSeat, yX11_readBill, yX11_readItem, yX11_read, yX11_fault, yX11_tellScene, yX11_chair, yX11_onBill, yX11_first, yX11_takeDraft, yX11_lay, yX11_take, yX11_isScene, yX11_isSeat, yX11_placeOn, yX11_placeIn, yX11_bitsOf, yX11_claquesOf, yX11_boundOf, yX11_isGone, yX11_bore, yX11_canLeave, yX11_settle, yX11_go, yX11_doesPass, yX11_bind, yX11_canPlay, yX11_playOn, yX11_scene, yX11_seat, yX11_tonight, yX11_passes, yX11_know, yX11_putOn, yX11_takeOff, yX11_change, yX11_canHire, yX11_hireFor, yX11_add, yX11_cut, yX11_play, yX11_swap, yX11_hire, yX11_undo, yX11_clausesTried, yX11_minutesTried, yX11_nextBill, yX11_soonest, yX11_nextRow, yX11_seating, yX11_claques, yX11_falls, yX11_run, yX11_most, yX11_see, yX11_forget, yX11_isSo, yX11_fits, yX11_coughs, yX11_turn, yX11_season, yX11_keep, yX11_back, yX11_count, yJ6_bitCount_0f7a4, yJ7_fill_53178, yL_law, objectInit]
def jMaxT : List (Nat) := [1, 5, 6, 3, 6, 7, 5, 1, 1, 2, 4, 4, 2, 2, 2, 2, 2, 3, 2, 3, 2, 2, 3, 3, 3, 1, 4, 3, 6, 4, 3, 3, 4, 1, 6, 4, 2, 6, 1, 1, 2, 4, 5, 2, 4, 4, 8, 6, 1, 6, 3, 3, 4, 5, 6, 6, 3, 1, 2, 2, 3, 4, 4, 5, 4, 1, 2, 2, 2, 4, 8, 5, 2, 2, 3, 1, 3, 4, 1, 2, 3, 1, 4, 4, 4, 2, 6, 2, 1, 2, 2, 2, 1, 1, 3, 3, 3, 2, 2, 2, 1, 3, 2, 1, 3, 2, 3, 1, 1, 2, 3, 2, 3, 3, 4, 1, 1, 2, 2, 1, 3, 2, 1, 3, 2, 2, 1, 1, 2, 5, 2, 1, 3, 2, 2, 1, 4, 4, 2, 1, 2, 1, 2, 2, 2, 4, 4, 3, 4, 4, 3, 6, 3, 6, 5, 2, 6, 2, 5, 3, 3, 3, 2, 2, 4, 3, 6, 2, 2, 2, 3, 1, 3, 2, 2, 4, 3, 2, 7, 6, 6, 5, 3, 3, 7, 3, 2, 5, 7, 9, 6, 8, 2, 2, 2, 1, 4, 4, 1]
def jRetT : List (Option FieldType) := [none, none, some .int, some .boolean, some .int, none, none, none, none, none, some .boolean, some .boolean, some .boolean, some .boolean, some .int, some .int, some .boolean, none, none, none, some .boolean, none, some .int, some .int, some .int, some .boolean, none, none, none, none, none, none, none, none, none, some .int, none, some .boolean, none, none, none, none, none, some .boolean, none, none, none, some .boolean, none, some .int, some .int, some .int, none, none, some .int, some .int, some .boolean, some .boolean, none, some .int, none, some .int, none, none, none, none, none, none, none, none, none, some .boolean, some (.object "PlayedLaws$Night"), some .int, none, none, some .boolean, some .boolean, none, some .boolean, some .int, some .boolean, some .boolean, some .boolean, some .boolean, some .boolean, some .int, some .int, some .int, none, some .int, some .int, some .int, some .int, some .int, some .int, some .int, some .int, some .int, some .int, some .int, some .int, some .int, some .int, some .int, some .int, some .int, some .int, some .int, some .int, some .int, some .int, some .int, some .int, some .int, some .int, some .int, some .int, none, none, some .boolean, some .boolean, none, some .boolean, some .int, some .int, some .int, some .boolean, none, some .int, none, none, none, none, some .int, some .int, none, none, none, none, none, some .int, none, some .boolean, some .boolean, some .int, some .int, some .int, some .int, some .int, some .boolean, none, some .boolean, none, some .int, some .boolean, none, some .boolean, some .boolean, some .int, some .int, some .int, some .int, none, none, none, none, some .boolean, none, some .int, some .int, some .int, some .int, some .int, some .int, some .int, some .int, some .boolean, some .int, some .boolean, some .int, some .int, some .int, some .int, some .int, some .int, some .int, some .boolean, some .int, some .int, some .int, some .int, some .int, some .int, some .int, some .int, none, some .boolean, none]
def jOwnT : List (Nat) := [0, 0, 0, 0, 0, 0, 0, 1, 1, 1, 1, 1, 1, 1, 1, 1, 1, 1, 1, 1, 1, 1, 1, 1, 1, 1, 1, 1, 1, 1, 2, 2, 2, 3, 3, 3, 3, 3, 4, 4, 4, 4, 4, 4, 4, 4, 4, 4, 5, 5, 5, 5, 5, 5, 5, 5, 5, 5, 6, 6, 6, 6, 6, 6, 6, 6, 6, 6, 7, 7, 7, 7, 7, 7, 7, 8, 8, 8, 9, 9, 9, 9, 9, 9, 9, 9, 9, 9, 9, 10, 10, 10, 10, 10, 10, 10, 10, 10, 10, 10, 10, 10, 10, 10, 10, 10, 10, 10, 10, 10, 10, 10, 10, 10, 10, 10, 10, 10, 10, 10, 10, 10, 11, 11, 11, 11, 11, 11, 11, 11, 11, 11, 11, 11, 11, 11, 11, 11, 11, 11, 11, 11, 11, 11, 11, 11, 11, 11, 11, 11, 11, 11, 11, 11, 11, 11, 11, 11, 11, 11, 11, 11, 11, 11, 11, 11, 11, 11, 11, 11, 11, 11, 11, 11, 11, 11, 11, 11, 11, 11, 11, 11, 11, 11, 11, 11, 11, 11, 11, 11, 11, 11, 11, 11, 11, 13, 14, 12, 15]
def jOwn (m : Nat) : Nat := jOwnT.getD m 0
def jParT : List (Nat) := [0, 2, 3, 2, 2, 3, 1, 0, 0, 1, 3, 3, 1, 1, 1, 1, 1, 2, 1, 2, 1, 1, 0, 0, 1, 0, 1, 0, 1, 3, 1, 1, 1, 0, 2, 1, 0, 0, 0, 0, 1, 2, 3, 1, 2, 3, 3, 2, 0, 1, 1, 1, 1, 3, 3, 3, 2, 0, 1, 1, 2, 2, 2, 3, 2, 0, 0, 1, 0, 3, 5, 2, 1, 1, 2, 0, 2, 2, 0, 1, 0, 0, 0, 0, 0, 0, 3, 0, 1, 0, 1, 0, 0, 0, 2, 2, 2, 1, 1, 1, 0, 2, 1, 0, 2, 1, 1, 0, 0, 1, 2, 0, 2, 2, 3, 0, 0, 1, 1, 0, 3, 2, 0, 3, 1, 0, 0, 0, 1, 2, 0, 0, 0, 0, 0, 0, 3, 3, 1, 0, 0, 0, 0, 1, 1, 2, 2, 1, 1, 1, 2, 3, 2, 3, 1, 1, 1, 1, 1, 2, 2, 2, 1, 0, 3, 2, 3, 2, 2, 1, 1, 0, 2, 1, 0, 0, 0, 0, 2, 0, 1, 1, 0, 0, 1, 2, 0, 1, 2, 2, 1, 3, 0, 0, 1, 1, 2, 1, 0]
def jStatT : List (Bool) := [false, false, true, true, true, false, false, false, false, false, false, false, false, false, false, false, false, false, false, false, false, false, false, false, false, false, false, false, false, false, false, false, false, false, false, false, false, false, false, false, false, false, false, false, false, false, false, false, false, false, false, false, false, false, false, false, false, false, false, false, false, false, false, false, false, false, false, false, false, false, true, false, false, false, false, false, false, false, false, false, false, false, false, false, false, false, false, false, true, false, false, false, false, false, false, false, false, false, false, false, false, false, false, false, false, false, false, false, false, false, false, false, false, false, false, false, false, false, false, false, true, true, false, true, false, false, false, false, false, false, false, false, false, false, false, false, false, false, false, false, false, false, false, false, false, true, false, true, false, false, false, false, false, false, false, false, false, false, false, false, false, false, false, false, true, true, false, true, true, false, false, false, false, false, false, false, false, false, false, false, false, false, false, false, false, false, false, false, false, false, false, false, false, false, false, true, true, true, false]
def jInitT : List (Bool) := [true, false, false, false, false, false, false, true, false, false, false, false, false, false, false, false, false, false, false, false, false, false, false, false, false, false, false, false, false, false, true, false, false, true, false, false, false, false, true, false, false, false, false, false, false, false, false, false, true, false, false, false, false, false, false, false, false, false, true, false, false, false, false, false, false, false, false, false, true, false, false, false, false, false, false, true, false, false, true, false, false, false, false, false, false, false, false, false, false, true, false, false, false, false, false, false, false, false, false, false, false, false, false, false, false, false, false, false, false, false, false, false, false, false, false, false, false, false, false, false, false, false, true, false, false, false, false, false, false, false, false, false, false, false, false, false, false, false, false, false, false, false, false, false, false, false, false, false, false, false, false, false, false, false, false, false, false, false, false, false, false, false, false, false, false, false, false, false, false, false, false, false, false, false, false, false, false, false, false, false, false, false, false, false, false, false, false, false, false, false, false, false, false, false, false, false, false, false, true]
def jLongT : List (List Nat) := [[], [], [], [], [], [5], [], [], [], [], [], [], [], [], [], [], [], [], [], [], [], [], [], [], [], [], [], [], [], [], [], [], [], [], [], [], [], [], [], [], [], [], [], [], [], [], [], [], [], [], [], [], [], [], [], [], [], [], [], [], [], [], [], [], [], [], [], [], [], [], [], [], [], [], [], [], [], [], [], [], [], [], [], [], [], [], [], [], [], [], [], [], [], [], [], [], [], [], [], [], [], [], [], [], [], [], [], [], [], [], [], [], [], [], [], [], [], [], [], [], [], [], [], [], [], [], [], [], [], [], [], [], [], [], [], [], [], [], [], [], [], [], [], [], [], [], [], [], [], [], [], [], [], [], [], [], [], [], [], [], [], [], [], [], [], [], [], [], [], [], [], [], [], [], [], [], [], [], [], [], [], [], [], [], [], [], [], [], [], [], [], [6], [], [], [], [], [], [], []]
def jROwn : List (String) := [RX0, RX1, RX2, RX3, RX4, RX5, RX6, RX7, RX8, RX9, RX10, RX11, RL, RJ6, RJ7, "java/lang/Object"]
def jTX : List (u_T) := [TX0, TX1, TX2, TX3, TX4, TX5, TX6, TX7, TX8, TX9, TX10, TX11]
def jTyX : List (Nat → FieldType) := [tyX0, tyX1, tyX2, tyX3, tyX4, tyX5, tyX6, tyX7, tyX8, tyX9, tyX10, tyX11]
def jNT : List (Nat) := [4, 16, 3, 5, 6, 4, 1, 7, 3, 4, 11, 30]
def jIsRefT : List (List Bool) := [[true, true, false, false], [true, true, true, true, true, true, true, true, true, true, false, false, false, false, false, false], [true, false, false], [true, true, true, false, false], [true, true, true, true, true, false], [true, true, false, false], [true], [true, true, true, false, false, false, false], [true, true, false], [true, true, false, false], [true, true, true, true, true, true, true, true, true, true, false], [true, false, true, true, true, true, true, true, true, true, true, false, false, false, false, true, true, false, true, false, true, true, true, true, true, false, true, true, true, false]]
def jFldT : List (List (Nat × (Nat × Nat))) := [[(12, (0, 0)), (21, (0, 1)), (25, (0, 2)), (29, (0, 3)), (32, (1, 11)), (59, (1, 5)), (83, (1, 10)), (90, (1, 12))], [(14, (1, 0)), (20, (1, 1)), (23, (1, 2)), (26, (1, 3)), (29, (1, 4)), (32, (1, 5)), (35, (1, 6)), (38, (1, 7)), (41, (1, 8)), (44, (1, 9)), (53, (1, 10)), (57, (1, 11)), (60, (1, 12)), (63, (1, 13)), (66, (1, 14)), (69, (1, 15)), (127, (4, 5)), (141, (4, 3))], [(9, (2, 0)), (16, (2, 1)), (24, (2, 2))], [(12, (3, 0)), (21, (3, 1)), (30, (3, 2)), (34, (3, 4)), (46, (1, 9)), (52, (3, 3)), (62, (1, 11)), (73, (4, 5))], [(14, (4, 0)), (20, (4, 1)), (23, (4, 2)), (26, (4, 3)), (29, (4, 4)), (35, (4, 5)), (46, (1, 12)), (59, (1, 11)), (62, (1, 9)), (76, (1, 4)), (90, (1, 1)), (93, (1, 5)), (96, (1, 6)), (99, (1, 0)), (108, (1, 3)), (114, (1, 7))], [(12, (5, 0)), (21, (5, 1)), (25, (1, 11)), (43, (1, 5)), (57, (1, 10)), (71, (5, 2)), (74, (5, 3)), (77, (1, 12)), (103, (1, 7)), (110, (1, 6)), (113, (4, 1))], [(9, (6, 0))], [(12, (7, 0)), (20, (7, 1)), (29, (7, 2)), (33, (7, 6)), (38, (7, 5)), (45, (7, 3)), (48, (7, 4)), (55, (1, 10)), (58, (1, 1)), (82, (1, 4)), (88, (1, 12)), (102, (1, 0))], [(14, (8, 0)), (20, (8, 1)), (23, (8, 2))], [(14, (9, 0)), (23, (9, 1)), (27, (9, 2)), (38, (9, 3)), (72, (1, 12)), (89, (1, 13))], [(12, (10, 0)), (19, (10, 1)), (28, (10, 2)), (32, (10, 3)), (38, (10, 4)), (45, (10, 5)), (52, (10, 6)), (59, (10, 7)), (66, (10, 8)), (73, (10, 9)), (96, (9, 1)), (103, (9, 2)), (110, (1, 10)), (113, (1, 11)), (119, (1, 0)), (129, (1, 1)), (132, (1, 2)), (138, (1, 3)), (144, (1, 5)), (147, (1, 6)), (150, (1, 7)), (156, (1, 8)), (163, (4, 1)), (166, (4, 3)), (169, (4, 0)), (172, (4, 5)), (185, (1, 12)), (212, (1, 13)), (215, (2, 2)), (221, (10, 10)), (228, (7, 3)), (229, (7, 4)), (231, (7, 2)), (236, (3, 3)), (239, (3, 2)), (258, (5, 2)), (261, (5, 3)), (268, (8, 2)), (281, (0, 2)), (284, (0, 3)), (290, (0, 0)), (293, (1, 15)), (302, (1, 14))], [(7, (11, 0)), (13, (11, 2)), (17, (11, 3)), (20, (11, 4)), (23, (11, 5)), (26, (11, 6)), (29, (11, 7)), (32, (11, 8)), (35, (11, 9)), (38, (11, 10)), (41, (11, 15)), (44, (11, 16)), (47, (11, 18)), (50, (11, 20)), (53, (11, 21)), (56, (11, 22)), (59, (11, 23)), (63, (11, 24)), (66, (11, 26)), (69, (11, 27)), (72, (11, 28)), (85, (11, 1)), (89, (11, 13)), (96, (11, 14)), (112, (11, 11)), (124, (11, 12)), (143, (11, 17)), (146, (11, 19)), (149, (11, 29)), (163, (11, 25))], [], [], [], []]
def jMthT : List (List (Nat × Nat)) := [[(3, 198), (11, 7), (20, 38), (35, 3), (39, 2), (43, 41), (47, 43), (51, 4), (55, 121), (63, 59), (69, 9), (79, 6), (86, 16), (93, 17), (97, 18), (100, 19), (103, 20), (106, 21), (109, 25), (113, 26)], [(3, 198), (11, 58), (47, 65), (50, 66), (72, 67), (76, 60), (80, 120), (84, 61), (88, 63), (92, 14), (96, 64), (99, 15), (102, 62), (105, 59), (108, 195), (113, 22), (117, 43), (123, 28), (130, 904), (135, 27), (138, 24), (144, 121), (148, 29)], [(1, 198), (15, 7), (20, 9), (27, 904)], [(3, 198), (11, 7), (20, 38), (27, 58), (38, 35), (42, 9), (49, 66), (55, 36), (58, 37), (65, 60), (69, 41), (76, 67), (79, 59), (83, 62)], [(3, 198), (11, 58), (32, 65), (39, 67), (43, 39), (51, 42), (55, 44), (65, 59), (69, 121), (73, 45), (79, 46), (82, 47), (86, 60), (102, 903), (111, 904)], [(3, 198), (11, 7), (20, 38), (29, 195), (35, 9), (39, 121), (47, 60), (53, 57), (60, 16), (64, 18), (68, 27), (80, 53), (84, 17), (87, 41), (91, 43), (95, 28), (99, 23), (106, 56), (116, 59), (119, 77)], [(3, 198), (15, 59), (19, 60), (23, 196), (29, 904), (35, 900)], [(3, 198), (11, 7), (26, 58), (37, 38), (41, 9), (51, 70), (60, 59), (64, 121), (68, 71), (71, 73), (74, 74), (78, 72), (85, 60), (91, 40), (94, 42), (98, 43), (105, 24), (108, 67)], [(3, 198), (11, 58), (27, 60), (31, 59)], [(3, 198), (11, 58), (22, 7), (31, 60), (35, 8), (41, 81), (45, 87), (49, 82), (52, 83), (55, 84), (58, 85), (61, 86), (65, 10), (69, 11), (75, 88), (79, 12), (83, 16), (86, 17), (92, 120), (95, 59)], [(3, 198), (11, 78), (18, 7), (25, 30), (37, 75), (44, 38), (51, 68), (58, 33), (65, 48), (72, 0), (79, 901), (85, 902), (89, 79), (93, 80), (99, 118), (106, 120), (116, 12), (123, 59), (135, 14), (141, 13), (153, 15), (159, 41), (175, 43), (179, 16), (182, 119), (188, 17), (192, 18), (195, 25), (199, 26), (203, 19), (206, 20), (209, 21), (218, 32), (224, 69), (234, 34), (240, 49), (244, 195), (249, 50), (252, 51), (255, 52), (264, 76), (271, 54), (275, 55), (278, 1), (287, 5), (296, 23), (299, 31), (305, 22), (308, 9)], [(1, 198), (75, 139), (78, 140), (81, 123), (92, 126), (100, 127), (104, 129), (108, 128), (115, 130), (118, 131), (121, 132), (127, 133), (130, 134), (133, 136), (137, 137), (140, 138), (152, 147), (156, 150), (160, 152), (166, 151), (170, 153), (173, 154), (177, 148), (180, 155), (184, 156), (188, 143), (192, 145), (196, 144), (199, 146), (202, 163), (205, 164), (208, 165), (212, 157), (215, 158), (218, 166), (221, 167), (224, 168), (227, 142), (230, 177), (233, 176), (236, 175), (239, 179), (242, 149), (245, 187), (254, 190)], [(9, 89), (12, 122), (13, 90), (17, 124), (18, 91), (22, 125), (23, 92), (26, 135), (27, 93), (30, 141), (31, 94), (35, 159), (36, 95), (39, 160), (40, 96), (43, 161), (44, 97), (47, 162), (48, 98), (51, 169), (52, 99), (55, 170), (56, 100), (59, 171), (60, 101), (63, 172), (64, 102), (67, 173), (68, 103), (71, 174), (72, 104), (75, 178), (76, 105), (79, 180), (80, 106), (83, 181), (84, 107), (87, 182), (88, 108), (91, 183), (92, 109), (95, 184), (96, 110), (99, 185), (100, 111), (103, 186), (104, 112), (107, 188), (108, 113), (111, 189), (112, 114), (116, 191), (117, 115), (120, 192), (121, 116), (124, 193), (125, 117), (128, 194)], [], [], []]
def jClsT : List (List (Nat × Nat)) := [[(9, 1), (18, 4)], [(9, 6)], [(7, 1)], [(9, 1), (18, 4), (25, 6)], [(9, 6)], [(9, 1), (18, 4)], [], [(9, 1), (18, 4), (24, 6)], [(9, 6)], [(9, 6), (20, 1)], [(9, 9), (16, 1), (23, 2), (35, 8), (42, 4), (49, 7), (56, 3), (63, 5), (70, 0)], [], [(7, 10), (10, 11)], [], [], []]
def jCstT : List (List (Nat × Int32)) := [[], [], [], [], [], [], [], [], [], [], [], [], [], [(265, 1431655765), (266, 858993459), (267, 252645135)], [], []]
def jLngT : List (List (Nat × Int64)) := [[(73, 7919), (75, 6151), (77, 65521)], [], [], [], [], [], [], [], [], [], [], [(248, 7919), (250, 6151), (252, 65521)], [], [], [], []]
def jStrT : List (List (Nat × Unit)) := [[], [], [], [], [], [], [], [], [], [], [(77, ())], [], [], [], [], []]
/-- what a reference field (or a place of an array of objects) holds once it is laid -/
def jrf (k : Nat) (a : jA) (s : Nat) : jR := match k with
  | 0 => match s with
    | 0 => (1, (0, 15))
    | _ => (4, (0, 11))
  | 1 => (6, (s, a.2))
  | 2 => (15, a)
  | 3 => match s with
    | 0 => (1, (0, 13))
    | 1 => (4, (0, 9))
    | _ => (6, (34, 0))
  | 4 => (6, (16 + s, a.2))
  | 5 => match s with
    | 0 => (1, (0, 14))
    | _ => (4, (0, 10))
  | 6 => (12, a)
  | 7 => match s with
    | 0 => (1, (0, 12))
    | 1 => (16, (0, 0))
    | _ => (6, (33, 0))
  | 8 => match s with
    | 0 => (6, (31, 0))
    | _ => (6, (32, 0))
  | 9 => match s with
    | 0 => (6, (30, 0))
    | _ => (1, (0, 0))
  | 10 => match s with
    | 0 => (9, (0, 0))
    | 1 => (1, (0, 1))
    | 2 => (2, (0, 0))
    | 3 => (2, (0, 1))
    | 4 => (8, (0, 0))
    | 5 => (4, (0, 0))
    | 6 => (7, (0, 0))
    | 7 => (3, (0, 0))
    | 8 => (5, (0, 0))
    | _ => (0, (0, 0))
  | 11 => (if s = 0 then 14 else if s = 23 then 13 else 12, (40 + s, 0))
  | 15 => (1, (0, (if a.2 = 0 then 2 else 10) + s))
  | 16 => (4, (0, 1 + s))
  | _ => (99, (0, 0))
def jLenT : List Nat := [200, 6, 6, 7, 7, 0, 0, 0, 0, 0, 200, 0, 2, 14, 14, 14, 2, 7, 14, 14, 7, 0, 0, 0, 0, 39, 312, 0, 78, 0, 39, 7, 7, 7, 7, 0, 7, 6, 6, 0]
/-- how long an array is -/
def jLen (k : Nat) (a : jA) : Nat := match k with
  | 12 => if a.1 < 30 then 7 else jLenT.getD (a.1 - 30) 0
  | 13 => 7
  | 14 => 200
  | 15 => if a.2 = 0 then 8 else 2
  | 16 => 8
  | _ => 0
/-- every object and array, in the order in which they are made -/
def jRefs0 : List jR := [(10, (0, 0)), (9, (0, 0)), (6, (30, 0)), (12, (30, 0)), (1, (0, 0)), (6, (0, 0)), (12, (0, 0)), (6, (1, 0)), (12, (1, 0)), (6, (2, 0)), (12, (2, 0)), (6, (3, 0)), (12, (3, 0)), (6, (4, 0)), (12, (4, 0)), (6, (5, 0)), (12, (5, 0)), (6, (6, 0)), (12, (6, 0)), (6, (7, 0)), (12, (7, 0)), (6, (8, 0)), (12, (8, 0)), (6, (9, 0)), (12, (9, 0)), (1, (0, 1)), (6, (0, 1)), (12, (0, 1)), (6, (1, 1)), (12, (1, 1)), (6, (2, 1)), (12, (2, 1)), (6, (3, 1)), (12, (3, 1)), (6, (4, 1)), (12, (4, 1)), (6, (5, 1)), (12, (5, 1)), (6, (6, 1)), (12, (6, 1)), (6, (7, 1)), (12, (7, 1)), (6, (8, 1)), (12, (8, 1)), (6, (9, 1)), (12, (9, 1)), (2, (0, 0)), (15, (0, 0)), (1, (0, 2)), (6, (0, 2)), (12, (0, 2)), (6, (1, 2)), (12, (1, 2)), (6, (2, 2)), (12, (2, 2)), (6, (3, 2)), (12, (3, 2)), (6, (4, 2)), (12, (4, 2)), (6, (5, 2)), (12, (5, 2)), (6, (6, 2)), (12, (6, 2)), (6, (7, 2))]
def jRefs1 : List jR := [(12, (7, 2)), (6, (8, 2)), (12, (8, 2)), (6, (9, 2)), (12, (9, 2)), (1, (0, 3)), (6, (0, 3)), (12, (0, 3)), (6, (1, 3)), (12, (1, 3)), (6, (2, 3)), (12, (2, 3)), (6, (3, 3)), (12, (3, 3)), (6, (4, 3)), (12, (4, 3)), (6, (5, 3)), (12, (5, 3)), (6, (6, 3)), (12, (6, 3)), (6, (7, 3)), (12, (7, 3)), (6, (8, 3)), (12, (8, 3)), (6, (9, 3)), (12, (9, 3)), (1, (0, 4)), (6, (0, 4)), (12, (0, 4)), (6, (1, 4)), (12, (1, 4)), (6, (2, 4)), (12, (2, 4)), (6, (3, 4)), (12, (3, 4)), (6, (4, 4)), (12, (4, 4)), (6, (5, 4)), (12, (5, 4)), (6, (6, 4)), (12, (6, 4)), (6, (7, 4)), (12, (7, 4)), (6, (8, 4)), (12, (8, 4)), (6, (9, 4)), (12, (9, 4)), (1, (0, 5)), (6, (0, 5)), (12, (0, 5)), (6, (1, 5)), (12, (1, 5)), (6, (2, 5)), (12, (2, 5)), (6, (3, 5)), (12, (3, 5)), (6, (4, 5)), (12, (4, 5)), (6, (5, 5)), (12, (5, 5)), (6, (6, 5)), (12, (6, 5)), (6, (7, 5)), (12, (7, 5))]
def jRefs2 : List jR := [(6, (8, 5)), (12, (8, 5)), (6, (9, 5)), (12, (9, 5)), (1, (0, 6)), (6, (0, 6)), (12, (0, 6)), (6, (1, 6)), (12, (1, 6)), (6, (2, 6)), (12, (2, 6)), (6, (3, 6)), (12, (3, 6)), (6, (4, 6)), (12, (4, 6)), (6, (5, 6)), (12, (5, 6)), (6, (6, 6)), (12, (6, 6)), (6, (7, 6)), (12, (7, 6)), (6, (8, 6)), (12, (8, 6)), (6, (9, 6)), (12, (9, 6)), (1, (0, 7)), (6, (0, 7)), (12, (0, 7)), (6, (1, 7)), (12, (1, 7)), (6, (2, 7)), (12, (2, 7)), (6, (3, 7)), (12, (3, 7)), (6, (4, 7)), (12, (4, 7)), (6, (5, 7)), (12, (5, 7)), (6, (6, 7)), (12, (6, 7)), (6, (7, 7)), (12, (7, 7)), (6, (8, 7)), (12, (8, 7)), (6, (9, 7)), (12, (9, 7)), (1, (0, 8)), (6, (0, 8)), (12, (0, 8)), (6, (1, 8)), (12, (1, 8)), (6, (2, 8)), (12, (2, 8)), (6, (3, 8)), (12, (3, 8)), (6, (4, 8)), (12, (4, 8)), (6, (5, 8)), (12, (5, 8)), (6, (6, 8)), (12, (6, 8)), (6, (7, 8)), (12, (7, 8)), (6, (8, 8))]
def jRefs3 : List jR := [(12, (8, 8)), (6, (9, 8)), (12, (9, 8)), (1, (0, 9)), (6, (0, 9)), (12, (0, 9)), (6, (1, 9)), (12, (1, 9)), (6, (2, 9)), (12, (2, 9)), (6, (3, 9)), (12, (3, 9)), (6, (4, 9)), (12, (4, 9)), (6, (5, 9)), (12, (5, 9)), (6, (6, 9)), (12, (6, 9)), (6, (7, 9)), (12, (7, 9)), (6, (8, 9)), (12, (8, 9)), (6, (9, 9)), (12, (9, 9)), (2, (0, 1)), (15, (0, 1)), (1, (0, 10)), (6, (0, 10)), (12, (0, 10)), (6, (1, 10)), (12, (1, 10)), (6, (2, 10)), (12, (2, 10)), (6, (3, 10)), (12, (3, 10)), (6, (4, 10)), (12, (4, 10)), (6, (5, 10)), (12, (5, 10)), (6, (6, 10)), (12, (6, 10)), (6, (7, 10)), (12, (7, 10)), (6, (8, 10)), (12, (8, 10)), (6, (9, 10)), (12, (9, 10)), (1, (0, 11)), (6, (0, 11)), (12, (0, 11)), (6, (1, 11)), (12, (1, 11)), (6, (2, 11)), (12, (2, 11)), (6, (3, 11)), (12, (3, 11)), (6, (4, 11)), (12, (4, 11)), (6, (5, 11)), (12, (5, 11)), (6, (6, 11)), (12, (6, 11)), (6, (7, 11)), (12, (7, 11))]
def jRefs4 : List jR := [(6, (8, 11)), (12, (8, 11)), (6, (9, 11)), (12, (9, 11)), (8, (0, 0)), (6, (31, 0)), (12, (31, 0)), (6, (32, 0)), (12, (32, 0)), (4, (0, 0)), (6, (16, 0)), (12, (16, 0)), (6, (17, 0)), (12, (17, 0)), (6, (18, 0)), (12, (18, 0)), (6, (19, 0)), (12, (19, 0)), (6, (20, 0)), (12, (20, 0)), (7, (0, 0)), (1, (0, 12)), (6, (0, 12)), (12, (0, 12)), (6, (1, 12)), (12, (1, 12)), (6, (2, 12)), (12, (2, 12)), (6, (3, 12)), (12, (3, 12)), (6, (4, 12)), (12, (4, 12)), (6, (5, 12)), (12, (5, 12)), (6, (6, 12)), (12, (6, 12)), (6, (7, 12)), (12, (7, 12)), (6, (8, 12)), (12, (8, 12)), (6, (9, 12)), (12, (9, 12)), (16, (0, 0)), (6, (33, 0)), (12, (33, 0)), (4, (0, 1)), (6, (16, 1)), (12, (16, 1)), (6, (17, 1)), (12, (17, 1)), (6, (18, 1)), (12, (18, 1)), (6, (19, 1)), (12, (19, 1)), (6, (20, 1)), (12, (20, 1)), (4, (0, 2)), (6, (16, 2)), (12, (16, 2)), (6, (17, 2)), (12, (17, 2)), (6, (18, 2)), (12, (18, 2)), (6, (19, 2))]
def jRefs5 : List jR := [(12, (19, 2)), (6, (20, 2)), (12, (20, 2)), (4, (0, 3)), (6, (16, 3)), (12, (16, 3)), (6, (17, 3)), (12, (17, 3)), (6, (18, 3)), (12, (18, 3)), (6, (19, 3)), (12, (19, 3)), (6, (20, 3)), (12, (20, 3)), (4, (0, 4)), (6, (16, 4)), (12, (16, 4)), (6, (17, 4)), (12, (17, 4)), (6, (18, 4)), (12, (18, 4)), (6, (19, 4)), (12, (19, 4)), (6, (20, 4)), (12, (20, 4)), (4, (0, 5)), (6, (16, 5)), (12, (16, 5)), (6, (17, 5)), (12, (17, 5)), (6, (18, 5)), (12, (18, 5)), (6, (19, 5)), (12, (19, 5)), (6, (20, 5)), (12, (20, 5)), (4, (0, 6)), (6, (16, 6)), (12, (16, 6)), (6, (17, 6)), (12, (17, 6)), (6, (18, 6)), (12, (18, 6)), (6, (19, 6)), (12, (19, 6)), (6, (20, 6)), (12, (20, 6)), (4, (0, 7)), (6, (16, 7)), (12, (16, 7)), (6, (17, 7)), (12, (17, 7)), (6, (18, 7)), (12, (18, 7)), (6, (19, 7)), (12, (19, 7)), (6, (20, 7)), (12, (20, 7)), (4, (0, 8)), (6, (16, 8)), (12, (16, 8)), (6, (17, 8)), (12, (17, 8)), (6, (18, 8))]
def jRefs6 : List jR := [(12, (18, 8)), (6, (19, 8)), (12, (19, 8)), (6, (20, 8)), (12, (20, 8)), (3, (0, 0)), (1, (0, 13)), (6, (0, 13)), (12, (0, 13)), (6, (1, 13)), (12, (1, 13)), (6, (2, 13)), (12, (2, 13)), (6, (3, 13)), (12, (3, 13)), (6, (4, 13)), (12, (4, 13)), (6, (5, 13)), (12, (5, 13)), (6, (6, 13)), (12, (6, 13)), (6, (7, 13)), (12, (7, 13)), (6, (8, 13)), (12, (8, 13)), (6, (9, 13)), (12, (9, 13)), (4, (0, 9)), (6, (16, 9)), (12, (16, 9)), (6, (17, 9)), (12, (17, 9)), (6, (18, 9)), (12, (18, 9)), (6, (19, 9)), (12, (19, 9)), (6, (20, 9)), (12, (20, 9)), (6, (34, 0)), (12, (34, 0)), (5, (0, 0)), (1, (0, 14)), (6, (0, 14)), (12, (0, 14)), (6, (1, 14)), (12, (1, 14)), (6, (2, 14)), (12, (2, 14)), (6, (3, 14)), (12, (3, 14)), (6, (4, 14)), (12, (4, 14)), (6, (5, 14)), (12, (5, 14)), (6, (6, 14)), (12, (6, 14)), (6, (7, 14)), (12, (7, 14)), (6, (8, 14)), (12, (8, 14)), (6, (9, 14)), (12, (9, 14)), (4, (0, 10)), (6, (16, 10))]
def jRefs7 : List jR := [(12, (16, 10)), (6, (17, 10)), (12, (17, 10)), (6, (18, 10)), (12, (18, 10)), (6, (19, 10)), (12, (19, 10)), (6, (20, 10)), (12, (20, 10)), (0, (0, 0)), (1, (0, 15)), (6, (0, 15)), (12, (0, 15)), (6, (1, 15)), (12, (1, 15)), (6, (2, 15)), (12, (2, 15)), (6, (3, 15)), (12, (3, 15)), (6, (4, 15)), (12, (4, 15)), (6, (5, 15)), (12, (5, 15)), (6, (6, 15)), (12, (6, 15)), (6, (7, 15)), (12, (7, 15)), (6, (8, 15)), (12, (8, 15)), (6, (9, 15)), (12, (9, 15)), (4, (0, 11)), (6, (16, 11)), (12, (16, 11)), (6, (17, 11)), (12, (17, 11)), (6, (18, 11)), (12, (18, 11)), (6, (19, 11)), (12, (19, 11)), (6, (20, 11)), (12, (20, 11)), (11, (0, 0)), (14, (40, 0)), (12, (42, 0)), (12, (43, 0)), (12, (44, 0)), (12, (45, 0)), (12, (46, 0)), (12, (47, 0)), (12, (48, 0)), (12, (49, 0)), (12, (50, 0)), (12, (55, 0)), (12, (56, 0)), (12, (58, 0)), (12, (60, 0)), (12, (61, 0)), (12, (62, 0)), (13, (63, 0)), (12, (64, 0)), (12, (66, 0)), (12, (67, 0)), (12, (68, 0))]
def jRefs : List jR := jRefs0 ++ (jRefs1 ++ (jRefs2 ++ (jRefs3 ++ (jRefs4 ++ (jRefs5 ++ (jRefs6 ++ (jRefs7)))))))
end
section
/-! the pure machine: values, memory, one instruction, a run of calls -/
abbrev jV : Type := Int32 ⊕ (Int64 ⊕ Option jR)
abbrev jM : Type := Nat → jA → Nat → Int32
/-- how many objects are made, which places of references aren't laid yet, the numbers -/
abbrev jS : Type := Nat × (List (jR × Nat) × jM)
abbrev jL : Type := List (Option jV)
abbrev jFr : Type := Nat × (jL × (List jV × jS))
abbrev jO : Type := jFr ⊕ ((Nat × (List jV × List jV)) ⊕ Option jV)
abbrev jI (x : Int32) : jV := .inl x
abbrev jJ (x : Int64) : jV := .inr (.inl x)
abbrev jRf (r : jR) : jV := .inr (.inr (some r))
abbrev jNl : jV := .inr (.inr none)
def jF (m pc : Nat) : Option (Instr × Nat) := ((jCodeT.getD m []).getD (pc / 16) []).lookup pc
def jLong (m : Nat) : List Nat := jLongT.getD m []
def jUp (M : jM) (k : Nat) (a : jA) (i : Nat) (x : Int32) : jM := fun k' a' i' => if k' = k ∧ a' = a ∧ i' = i then x else M k' a' i'
def jCp (M : jM) (a b : jA) (s d n : Nat) : jM := fun k c j => if k = 12 ∧ c = b then va_cpy (M 12 a) (M 12 b) s d n j else M k c j
/-- the script: its length -/
abbrev jSL (M : jM) : Int32 := M 17 (0, 1) 0
/-- the places of references of an object of a class -/
def jSlots (k : Nat) (a : jA) : List (jR × Nat) := ((List.range (jNT.getD k 0)).filter (fun s => (jIsRefT.getD k []).getD s false)).map (fun s => ((k, a), s))
def jPd (P : List (jR × Nat)) (r : jR) (s : Nat) : Bool := match P with
  | [] => false
  | _ => P.contains (r, s)
abbrev jnx (pc : Nat) (al : jL) (st : List jV) (σ : jS) : Option jO := some (.inl (pc, (al, (st, σ))))
/-- a store into a local: no first half of a long stands there or ahead of it -/
def jst (m : Nat) (al : jL) (i : Nat) (v : jV) : Option jL :=
  if (Nat.ble al.length i || (jLong m).contains i) || (Nat.ble 1 i && (jLong m).contains (i - 1)) then none else some (al.set i (some v))
def jsw (pc : Nat) (x : Int32) (lo : Int) (dflt : Int) : List Int → Nat
  | [] => ((pc : Int) + dflt).toNat
  | o :: os => if x.toInt = lo then ((pc : Int) + o).toNat else jsw pc x (lo + 1) dflt os
def jlk (pc : Nat) (x : Int32) (dflt : Int) : List (Int × Int) → Nat
  | [] => ((pc : Int) + dflt).toNat
  | q :: qs => if x.toInt = q.1 then ((pc : Int) + q.2).toNat else jlk pc x dflt qs
abbrev jTg (pc : Nat) (off : Int) : Nat := ((pc : Int) + off).toNat
def jbr (pc n : Nat) (al : jL) (st : List jV) (σ : jS) (off : Int) (q : Prop) [Decidable q] : Option jO :=
  if 0 ≤ (pc : Int) + off ∧ n = 3 then jnx (if q then jTg pc off else pc + 3) al st σ else none
def jpop (m' : Nat) (st : List jV) : Option (List jV × List jV) :=
  if (jParT.getD m' 0) ≤ st.length then
    if jStatT.getD m' false then some ((st.take (jParT.getD m' 0)).reverse, st.drop (jParT.getD m' 0))
    else match st.drop (jParT.getD m' 0) with
      | .inr (.inr (some r)) :: rest => if r.1 = jOwn m' then some (.inr (.inr (some r)) :: (st.take (jParT.getD m' 0)).reverse, rest) else none
      | _ => none
  else none
def jsm : jV → Bool
  | .inr (.inl _) => false
  | _ => true
/-- how an instruction calls: the callee's kind of call is the instruction's -/
def jkind (I : Instr) (m' : Nat) : Bool := match I with
  | .invokestatic _ => jStatT.getD m' false
  | .invokespecial _ => !(jStatT.getD m' false) && jInitT.getD m' false
  | .invokevirtual _ => !(jStatT.getD m' false) && !(jInitT.getD m' false)
  | _ => false
def jinv (m idx n : Nat) (st : List jV) (I : Instr) : Option jO :=
  match (jMthT.getD (jOwn m) []).lookup idx with
  | some m' => match jpop m' st with
    | some (as, rest) => if (rest.length ≤ 4 ∧ n = 3 ∧ m' < 197) ∧ as.length ≤ jMaxT.getD m' 0 ∧ as.all jsm = true ∧ jkind I m' = true then some (.inr (.inl (m', (as, rest)))) else none
    | none => none
  | none => none
def jent (m : Nat) (as : List jV) : jL := as.map some ++ List.replicate (jMaxT.getD m 0 - as.length) none
def jnar (r : Option FieldType) (v : jV) : Bool := match r, v with
  | some .int, .inl _ => true
  | some .boolean, .inl x => x = 0 ∨ x = 1
  | some (.object _), .inr (.inr _) => true
  | _, _ => false
def jstr : List Int32 := (("s0,8,0;s2,6,1;s1,4,8;s3,12,2;s0,10,3;h0,2,9;h1,0,6;h0,1,14;h2,3,20;h0,0,5;h0,2,11;b01423;g25;").toList.map fun c => Int32.ofNat c.toNat)
def jzero (M : jM) (k : Nat) (a : jA) (n : Nat) : Bool := (List.range n).all fun j => M k a j == 0
def jexe (m pc n : Nat) (al : jL) (st : List jV) (σ : jS) (I : Instr) : Option jO := match I with
  | .iconst i => jnx (pc + n) al (jI (Int32.ofInt i) :: st) σ
  | .bipush i => if -128 ≤ i ∧ i < 128 then jnx (pc + n) al (jI (Int32.ofInt i) :: st) σ else none
  | .sipush i => if -32768 ≤ i ∧ i < 32768 then jnx (pc + n) al (jI (Int32.ofInt i) :: st) σ else none
  | .lconst i => jnx (pc + n) al (jJ (Int64.ofNat (i : Nat)) :: st) σ
  | .aconst_null => jnx (pc + n) al (jNl :: st) σ
  | .ldc i => match (jCstT.getD (jOwn m) []).lookup i with
    | some x => jnx (pc + n) al (jI x :: st) σ
    | none => match (jStrT.getD (jOwn m) []).lookup i with
      | some _ => jnx (pc + n) al (jRf (18, (0, 0)) :: st) σ
      | none => none
  | .ldc_w i => match (jCstT.getD (jOwn m) []).lookup i with
    | some x => jnx (pc + n) al (jI x :: st) σ
    | none => none
  | .ldc2_w i => match (jLngT.getD (jOwn m) []).lookup i with
    | some x => jnx (pc + n) al (jJ x :: st) σ
    | none => none
  | .iload i => match al[i]? with
    | some (some (.inl x)) => jnx (pc + n) al (jI x :: st) σ
    | _ => none
  | .iload_n i => match al[(i : Nat)]? with
    | some (some (.inl x)) => jnx (pc + n) al (jI x :: st) σ
    | _ => none
  | .lload i => match al[i]? with
    | some (some (.inr (.inl x))) => jnx (pc + n) al (jJ x :: st) σ
    | _ => none
  | .lload_n i => match al[(i : Nat)]? with
    | some (some (.inr (.inl x))) => jnx (pc + n) al (jJ x :: st) σ
    | _ => none
  | .aload i => match al[i]? with
    | some (some (.inr (.inr x))) => jnx (pc + n) al (.inr (.inr x) :: st) σ
    | _ => none
  | .aload_n i => match al[(i : Nat)]? with
    | some (some (.inr (.inr x))) => jnx (pc + n) al (.inr (.inr x) :: st) σ
    | _ => none
  | .istore i => match st with
    | .inl x :: st => match jst m al i (jI x) with
      | some al' => jnx (pc + n) al' st σ
      | none => none
    | _ => none
  | .istore_n i => match st with
    | .inl x :: st => match jst m al (i : Nat) (jI x) with
      | some al' => jnx (pc + n) al' st σ
      | none => none
    | _ => none
  | .astore i => match st with
    | .inr (.inr x) :: st => match jst m al i (.inr (.inr x)) with
      | some al' => jnx (pc + n) al' st σ
      | none => none
    | _ => none
  | .astore_n i => match st with
    | .inr (.inr x) :: st => match jst m al (i : Nat) (.inr (.inr x)) with
      | some al' => jnx (pc + n) al' st σ
      | none => none
    | _ => none
  | .lstore i => match st with
    | .inr (.inl x) :: st => if jLong m = [i] ∧ i + 1 < al.length then jnx (pc + n) ((al.set (i + 1) none).set i (some (jJ x))) st σ else none
    | _ => none
  | .iinc i c => match al[i]? with
    | some (some (.inl x)) => match jst m al i (jI (x + Int32.ofInt c)) with
      | some al' => if n = 3 then jnx (pc + 3) al' st σ else none
      | none => none
    | _ => none
  | .pop => match st with
    | .inl _ :: st => jnx (pc + n) al st σ
    | _ => none
  | .dup => match st with
    | .inl x :: st => jnx (pc + n) al (jI x :: jI x :: st) σ
    | .inr (.inr x) :: st => jnx (pc + n) al (.inr (.inr x) :: .inr (.inr x) :: st) σ
    | _ => none
  | .dup2 => match st with
    | .inl x :: .inr (.inr y) :: st => jnx (pc + n) al (jI x :: .inr (.inr y) :: jI x :: .inr (.inr y) :: st) σ
    | _ => none
  | .iadd => match st with
    | .inl y :: .inl x :: st => jnx (pc + n) al (jI (x + y) :: st) σ
    | _ => none
  | .isub => match st with
    | .inl y :: .inl x :: st => jnx (pc + n) al (jI (x - y) :: st) σ
    | _ => none
  | .imul => match st with
    | .inl y :: .inl x :: st => jnx (pc + n) al (jI (x * y) :: st) σ
    | _ => none
  | .idiv => match st with
    | .inl y :: .inl x :: st => if y = 0 then none else jnx (pc + n) al (jI (x / y) :: st) σ
    | _ => none
  | .irem => match st with
    | .inl y :: .inl x :: st => if y = 0 then none else jnx (pc + n) al (jI (x % y) :: st) σ
    | _ => none
  | .iand => match st with
    | .inl y :: .inl x :: st => jnx (pc + n) al (jI (x &&& y) :: st) σ
    | _ => none
  | .ior => match st with
    | .inl y :: .inl x :: st => jnx (pc + n) al (jI (x ||| y) :: st) σ
    | _ => none
  | .ixor => match st with
    | .inl y :: .inl x :: st => jnx (pc + n) al (jI (x ^^^ y) :: st) σ
    | _ => none
  | .ishl => match st with
    | .inl y :: .inl x :: st => jnx (pc + n) al (jI (x <<< (y &&& 31)) :: st) σ
    | _ => none
  | .ishr => match st with
    | .inl y :: .inl x :: st => jnx (pc + n) al (jI (x >>> (y &&& 31)) :: st) σ
    | _ => none
  | .iushr => match st with
    | .inl y :: .inl x :: st => jnx (pc + n) al (jI (x.toUInt32 >>> (y.toUInt32 &&& Int32.toUInt32 31)).toInt32 :: st) σ
    | _ => none
  | .ineg => match st with
    | .inl x :: st => jnx (pc + n) al (jI (-x) :: st) σ
    | _ => none
  | .i2b => match st with
    | .inl x :: st => jnx (pc + n) al (jI x.toInt8.toInt32 :: st) σ
    | _ => none
  | .i2l => match st with
    | .inl x :: st => jnx (pc + n) al (jJ x.toInt64 :: st) σ
    | _ => none
  | .l2i => match st with
    | .inr (.inl x) :: st => jnx (pc + n) al (jI x.toInt32 :: st) σ
    | _ => none
  | .ladd => match st with
    | .inr (.inl y) :: .inr (.inl x) :: st => jnx (pc + n) al (jJ (x + y) :: st) σ
    | _ => none
  | .lmul => match st with
    | .inr (.inl y) :: .inr (.inl x) :: st => jnx (pc + n) al (jJ (x * y) :: st) σ
    | _ => none
  | .lrem => match st with
    | .inr (.inl y) :: .inr (.inl x) :: st => if y = 0 then none else jnx (pc + n) al (jJ (x % y) :: st) σ
    | _ => none
  | .goto off => if 0 ≤ (pc : Int) + off ∧ n = 3 then jnx (jTg pc off) al st σ else none
  | .ifCond c off => match st with
    | .inl x :: st => match c with
      | .eq => jbr pc n al st σ off (x = 0)
      | .ne => jbr pc n al st σ off (¬ x = 0)
      | .lt => jbr pc n al st σ off (x < 0)
      | .ge => jbr pc n al st σ off (0 ≤ x)
      | .gt => jbr pc n al st σ off (0 < x)
      | .le => jbr pc n al st σ off (x ≤ 0)
    | _ => none
  | .if_icmp c off => match st with
    | .inl y :: .inl x :: st => match c with
      | .eq => jbr pc n al st σ off (x = y)
      | .ne => jbr pc n al st σ off (¬ x = y)
      | .lt => jbr pc n al st σ off (x < y)
      | .ge => jbr pc n al st σ off (y ≤ x)
      | .gt => jbr pc n al st σ off (y < x)
      | .le => jbr pc n al st σ off (x ≤ y)
    | _ => none
  | .ifnull off => match st with
    | .inr (.inr none) :: st => jbr pc n al st σ off True
    | .inr (.inr (some _)) :: st => jbr pc n al st σ off False
    | _ => none
  | .ifnonnull off => match st with
    | .inr (.inr none) :: st => jbr pc n al st σ off False
    | .inr (.inr (some _)) :: st => jbr pc n al st σ off True
    | _ => none
  | .tableswitch dflt lo hi offs => match st with
    | .inl x :: st => if (0 ≤ (pc : Int) + dflt ∧ offs.toList.all (fun o => decide (0 ≤ (pc : Int) + o))) ∧ hi + 1 = lo + offs.toList.length then jnx (jsw pc x lo dflt offs.toList) al st σ else none
    | _ => none
  | .lookupswitch dflt ps => match st with
    | .inl x :: st => if (0 ≤ (pc : Int) + dflt ∧ ps.toList.all (fun q => decide (0 ≤ (pc : Int) + q.2))) ∧ (ps.toList.zip (ps.toList.drop 1)).all (fun (a, next) => a.1 < next.1) then jnx (jlk pc x dflt ps.toList) al st σ else none
    | _ => none
  | .getfield i => match (jFldT.getD (jOwn m) []).lookup i with
    | some (k, s) => match st with
      | .inr (.inr (some r)) :: st => if r.1 = k then
          (if (jIsRefT.getD k []).getD s false then (if jPd σ.2.1 (k, r.2) s then none else jnx (pc + n) al (jRf (jrf k r.2 s) :: st) σ)
          else jnx (pc + n) al (jI (σ.2.2 k r.2 s) :: st) σ) else none
      | _ => none
    | none => none
  | .putfield i => match (jFldT.getD (jOwn m) []).lookup i with
    | some (k, s) => match st with
      | .inl x :: .inr (.inr (some r)) :: st => if r.1 = k ∧ (jIsRefT.getD k []).getD s false = false ∧ (k = 11 ∧ s = 14 → x = 0 ∨ x = 1) then jnx (pc + n) al st (σ.1, (σ.2.1, jUp σ.2.2 k r.2 s x)) else none
      | .inr (.inr (some v)) :: .inr (.inr (some r)) :: st => if (r.1 = k ∧ (jIsRefT.getD k []).getD s false = true ∧ jInitT.getD m false = true ∧ jOwn m = k) ∧ v = jrf k r.2 s ∧ σ.2.1.contains ((k, r.2), s) ∧ (σ.2.1.erase ((k, r.2), s)).contains ((k, r.2), s) = false then jnx (pc + n) al st (σ.1, (σ.2.1.erase ((k, r.2), s), σ.2.2)) else none
      | _ => none
    | none => none
  | .iaload => match st with
    | .inl i :: .inr (.inr (some r)) :: st => if r.1 = 12 then (if 0 ≤ i ∧ i.toNatClampNeg < jLen 12 r.2 then jnx (pc + n) al (jI (σ.2.2 12 r.2 i.toNatClampNeg) :: st) σ else none)
        else if r = (17, (0, 0)) then (if 0 ≤ i ∧ i.toNatClampNeg < (jSL σ.2.2).toNatClampNeg then jnx (pc + n) al (jI (σ.2.2 17 (0, 0) i.toNatClampNeg) :: st) σ else none) else none
    | _ => none
  | .baload => match st with
    | .inl i :: .inr (.inr (some r)) :: st => if (r.1 = 13 ∨ r.1 = 14) ∧ 0 ≤ i ∧ i.toNatClampNeg < jLen r.1 r.2 then jnx (pc + n) al (jI (σ.2.2 r.1 r.2 i.toNatClampNeg) :: st) σ else none
    | _ => none
  | .iastore => match st with
    | .inl x :: .inl i :: .inr (.inr (some r)) :: st => if r.1 = 12 ∧ 0 ≤ i ∧ i.toNatClampNeg < jLen 12 r.2 then jnx (pc + n) al st (σ.1, (σ.2.1, jUp σ.2.2 12 r.2 i.toNatClampNeg x)) else none
    | _ => none
  | .bastore => match st with
    | .inl x :: .inl i :: .inr (.inr (some r)) :: st => if ((r.1 = 13 ∧ (x = 0 ∨ x = 1)) ∨ (r.1 = 14 ∧ x.toInt8.toInt32 = x)) ∧ 0 ≤ i ∧ i.toNatClampNeg < jLen r.1 r.2 then jnx (pc + n) al st (σ.1, (σ.2.1, jUp σ.2.2 r.1 r.2 i.toNatClampNeg x)) else none
    | _ => none
  | .aaload => match st with
    | .inl i :: .inr (.inr (some r)) :: st => if (r.1 = 15 ∨ r.1 = 16) ∧ 0 ≤ i ∧ i.toNatClampNeg < jLen r.1 r.2 then (if jPd σ.2.1 r i.toNatClampNeg then none else jnx (pc + n) al (jRf (jrf r.1 r.2 i.toNatClampNeg) :: st) σ) else none
    | _ => none
  | .aastore => match st with
    | .inr (.inr (some v)) :: .inl i :: .inr (.inr (some r)) :: st => if ((r.1 = 15 ∨ r.1 = 16) ∧ 0 ≤ i ∧ i.toNatClampNeg < jLen r.1 r.2) ∧ v = jrf r.1 r.2 i.toNatClampNeg ∧ σ.2.1.contains (r, i.toNatClampNeg) ∧ (σ.2.1.erase (r, i.toNatClampNeg)).contains (r, i.toNatClampNeg) = false then jnx (pc + n) al st (σ.1, (σ.2.1.erase (r, i.toNatClampNeg), σ.2.2)) else none
    | _ => none
  | .arraylength => match st with
    | .inr (.inr (some r)) :: st => if 12 ≤ r.1 ∧ r.1 ≤ 16 then jnx (pc + n) al (jI (Int32.ofNat (jLen r.1 r.2)) :: st) σ else if r = (17, (0, 0)) then jnx (pc + n) al (jI (jSL σ.2.2) :: st) σ else none
    | _ => none
  | .new i => match (jClsT.getD (jOwn m) []).lookup i, jRefs[σ.1]? with
    | some k, some r => if r.1 = k ∧ k < 12 ∧ jzero σ.2.2 k r.2 (jNT.getD k 0) then jnx (pc + n) al (jRf r :: st) (σ.1 + 1, (jSlots k r.2 ++ σ.2.1, σ.2.2)) else none
    | _, _ => none
  | .newarray t => match st, jRefs[σ.1]? with
    | .inl x :: st, some r => if ((t = .int ∧ r.1 = 12) ∨ (t = .boolean ∧ r.1 = 13) ∨ (t = .byte ∧ r.1 = 14)) ∧ 0 ≤ x ∧ x.toNatClampNeg = jLen r.1 r.2 ∧ jzero σ.2.2 r.1 r.2 (jLen r.1 r.2) then jnx (pc + n) al (jRf r :: st) (σ.1 + 1, σ.2) else none
    | _, _ => none
  | .anewarray i => match st, (jClsT.getD (jOwn m) []).lookup i, jRefs[σ.1]? with
    | .inl x :: st, some k, some r => if ((k = 1 ∧ r.1 = 15) ∨ (k = 4 ∧ r.1 = 16)) ∧ 0 ≤ x ∧ x.toNatClampNeg = jLen r.1 r.2 then jnx (pc + n) al (jRf r :: st) (σ.1 + 1, ((List.range (jLen r.1 r.2)).map (fun j => (r, j)) ++ σ.2.1, σ.2.2)) else none
    | _, _, _ => none
  | .invokespecial i => match (jMthT.getD (jOwn m) []).lookup i with
    | some 198 => match st with
      | .inr (.inr (some _)) :: st => if n = 3 ∧ st.length ≤ 4 then jnx (pc + 3) al st σ else none
      | _ => none
    | _ => jinv m i n st I
  | .invokevirtual i => match (jMthT.getD (jOwn m) []).lookup i with
    | some 901 => match st with
      | .inr (.inr (some (18, _))) :: st => if n = 3 ∧ st.length ≤ 4 then jnx (pc + 3) al (jI (Int32.ofNat jstr.length) :: st) σ else none
      | _ => none
    | some 902 => match st with
      | .inl i :: .inr (.inr (some (18, _))) :: st => if (n = 3 ∧ st.length ≤ 4) ∧ 0 ≤ i ∧ i.toNatClampNeg < jstr.length then jnx (pc + 3) al (jI (jstr.getD i.toNatClampNeg 0) :: st) σ else none
      | _ => none
    | _ => jinv m i n st I
  | .invokestatic i => match (jMthT.getD (jOwn m) []).lookup i with
    | some 900 => match st with
      | .inl c :: .inl d :: .inr (.inr (some r)) :: .inl s :: .inr (.inr (some q)) :: st => if (r.1 = 12 ∧ q.1 = 12 ∧ n = 3 ∧ st.length ≤ 4) ∧ 0 ≤ s ∧ 0 ≤ d ∧ 0 ≤ c ∧ s.toNatClampNeg + c.toNatClampNeg ≤ jLen 12 q.2 ∧ d.toNatClampNeg + c.toNatClampNeg ≤ jLen 12 r.2 then jnx (pc + 3) al st (σ.1, (σ.2.1, jCp σ.2.2 q.2 r.2 s.toNatClampNeg d.toNatClampNeg c.toNatClampNeg)) else none
      | _ => none
    | some 903 => match st with
      | .inl y :: .inl x :: st => if n = 3 ∧ st.length ≤ 4 then jnx (pc + 3) al (jI (if x < y then y else x) :: st) σ else none
      | _ => none
    | some 904 => match st with
      | .inl y :: .inl x :: st => if n = 3 ∧ st.length ≤ 4 then jnx (pc + 3) al (jI (if y < x then y else x) :: st) σ else none
      | _ => none
    | _ => jinv m i n st I
  | .ireturn => match st with
    | .inl x :: [] => if jnar (jRetT.getD m none) (jI x) then some (.inr (.inr (some (jI x)))) else none
    | _ => none
  | .areturn => match st with
    | .inr (.inr x) :: [] => if jnar (jRetT.getD m none) (.inr (.inr x)) then some (.inr (.inr (some (.inr (.inr x))))) else none
    | _ => none
  | .return_ => match st with
    | [] => if jRetT.getD m none = none then some (.inr (.inr none)) else none
    | _ => none
  | _ => none
def jstep (m pc : Nat) (al : jL) (st : List jV) (σ : jS) : Option jO := match jF m pc with
  | some (I, n) => jexe m pc n al st σ I
  | none => none
/-- f steps and calls at most, d calls deep at most -/
def jrun : Nat → Nat → Nat → jFr → Option (Option jV × jS)
  | 0, _, _, _ => none
  | f + 1, d, m, (pc, (al, (st, σ))) => match jstep m pc al st σ with
    | none => none
    | some (.inl fr) => jrun f d m fr
    | some (.inr (.inl (m', (as, rest)))) => match d with
      | 0 => none
      | d' + 1 => match jrun f d' m' (0, (jent m' as, ([], σ))) with
        | none => none
        | some (v, σ1) => jrun f (d' + 1) m (pc + 3, (al, (v.toList ++ rest, σ1)))
    | some (.inr (.inr v)) => some (v, σ)
def jE (d m pc : Nat) (al : jL) (st : List jV) (σ : jS) (v : Option jV) (σ' : jS) : Prop := ∃ f, jrun f d m (pc, (al, (st, σ))) = some (v, σ')
end
section
/-! runs of the pure machine, as equivalences: one a kind of instruction -/
theorem jrun_succ : ∀ (f d m : Nat) (fr : jFr) (x : Option jV × jS), jrun f d m fr = some x → jrun (f + 1) d m fr = some x := by
  intro f
  induction f with
  | zero => intro d m fr x h; obtain ⟨pc, al, st, σ⟩ := fr; simp [jrun] at h
  | succ f ih =>
    intro d m fr x h
    obtain ⟨pc, al, st, σ⟩ := fr
    rw [jrun] at h ⊢
    cases hx : jstep m pc al st σ with
    | none => rw [hx] at h; cases h
    | some o =>
      rw [hx] at h
      rcases o with fr' | ⟨m', as, rest⟩ | v1
      · exact ih _ _ _ _ h
      · cases d with
        | zero => cases h
        | succ d =>
          dsimp only at h ⊢
          cases hq : jrun f d m' (0, (jent m' as, ([], σ))) with
          | none => rw [hq] at h; cases h
          | some q =>
            rw [hq] at h
            rw [ih _ _ _ _ hq]
            exact ih _ _ _ _ h
      · exact h
theorem jrun_le {f f' d m : Nat} {fr : jFr} {x : Option jV × jS} (hf : f ≤ f') (h : jrun f d m fr = some x) : jrun f' d m fr = some x := by
  induction f' with
  | zero => rw [show f = 0 by omega] at h; exact h
  | succ k ih =>
    by_cases e : f = k + 1
    · rw [← e]; exact h
    · exact jrun_succ _ _ _ _ _ (ih (by omega))
section JPURE
variable {d m pc n : Nat} {al al' : jL} {st st' : List jV} {σ σ1 σ' : jS} {v : Option jV} {pc' : Nat}
theorem jE_next (h : jstep m pc al st σ = some (.inl (pc', (al', (st', σ1))))) : jE d m pc al st σ v σ' ↔ jE d m pc' al' st' σ1 v σ' := by
  constructor
  · rintro ⟨f, hf⟩
    cases f with
    | zero => simp [jrun] at hf
    | succ f =>
      rw [jrun, h] at hf
      exact ⟨f, hf⟩
  · rintro ⟨f, hf⟩
    refine ⟨f + 1, ?_⟩
    rw [jrun, h]
    exact hf
theorem jE_call {m' : Nat} {as rest : List jV} (h : jstep m pc al st σ = some (.inr (.inl (m', (as, rest))))) : jE (d + 1) m pc al st σ v σ' ↔ ∃ (v1 : Option jV) (σ1 : jS), jE d m' 0 (jent m' as) [] σ v1 σ1 ∧ jE (d + 1) m (pc + 3) al (v1.toList ++ rest) σ1 v σ' := by
  constructor
  · rintro ⟨f, hf⟩
    cases f with
    | zero => simp [jrun] at hf
    | succ f =>
      rw [jrun, h] at hf
      dsimp only at hf
      split at hf
      · cases hf
      · rename_i v1 σ1 q
        exact ⟨v1, σ1, ⟨f, q⟩, ⟨f, hf⟩⟩
  · rintro ⟨v1, σ1, ⟨f1, h1⟩, ⟨f2, h2⟩⟩
    refine ⟨max f1 f2 + 1, ?_⟩
    rw [jrun, h]
    dsimp only
    rw [jrun_le (Nat.le_max_left f1 f2) h1]
    exact jrun_le (Nat.le_max_right f1 f2) h2
theorem jE_ret {v0 : Option jV} (h : jstep m pc al st σ = some (.inr (.inr v0))) : jE d m pc al st σ v σ' ↔ v = v0 ∧ σ' = σ := by
  constructor
  · rintro ⟨f, hf⟩
    cases f with
    | zero => simp [jrun] at hf
    | succ f =>
      rw [jrun, h] at hf
      cases hf
      exact ⟨rfl, rfl⟩
  · rintro ⟨rfl, rfl⟩
    exact ⟨1, by rw [jrun, h]⟩
theorem jE_stuck (h : jstep m pc al st σ = none) : jE d m pc al st σ v σ' ↔ False := by
  constructor
  · rintro ⟨f, hf⟩
    cases f with
    | zero => simp [jrun] at hf
    | succ f =>
      rw [jrun, h] at hf
      cases hf
  · exact False.elim
theorem jE_det {v2 : Option jV} {σ2 : jS} (h1 : jE d m pc al st σ v σ') (h2 : jE d m pc al st σ v2 σ2) : v = v2 ∧ σ' = σ2 := by
  obtain ⟨f1, h1⟩ := h1
  obtain ⟨f2, h2⟩ := h2
  have e1 := jrun_le (Nat.le_max_left f1 f2) h1
  have e2 := jrun_le (Nat.le_max_right f1 f2) h2
  have e := Option.some.inj (e1.symm.trans e2)
  exact ⟨(Prod.mk.inj e).1, (Prod.mk.inj e).2⟩
theorem jE_iff {v0 : Option jV} {σ0 : jS} (h : jE d m pc al st σ v0 σ0) : jE d m pc al st σ v σ' ↔ v = v0 ∧ σ' = σ0 := by
  constructor
  · intro h1
    exact jE_det h1 h
  · rintro ⟨rfl, rfl⟩
    exact h
theorem jE_ite {c : Prop} [Decidable c] {p q : Nat} : jE d m (if c then p else q) al st σ v σ' ↔ if c then jE d m p al st σ v σ' else jE d m q al st σ v σ' := by
  by_cases h : c
  · rw [if_pos h, if_pos h]
  · rw [if_neg h, if_neg h]
theorem jcall_eq {P : Option jV → jS → Prop} {a : Option jV} {b : jS} : (∃ (v1 : Option jV) (s1 : jS), (v1 = a ∧ s1 = b) ∧ P v1 s1) ↔ P a b := by
  constructor
  · rintro ⟨v1, s1, ⟨rfl, rfl⟩, h⟩
    exact h
  · intro h
    exact ⟨a, b, ⟨rfl, rfl⟩, h⟩
theorem jst_of {I : Instr} (hF : jF m pc = some (I, n)) : jstep m pc al st σ = jexe m pc n al st σ I := by
  unfold jstep
  rw [hF]
end JPURE
section JG
variable {d m pc nx n tg : Nat} {al : jL} {st : List jV} {σ σ' : jS} {v : Option jV} {x y z : Int32} {k h : Int64} {o : Option jR} {a b : jA} {P : List (jR × Nat)} {M : jM} {off : Int} {i kk s : Nat}
theorem jg_idiv (hF : jF m pc = some (.idiv, 1)) : jE d m pc al (.inl y :: .inl x :: st) σ v σ' ↔ (¬ y = 0 ∧ jE d m (pc + 1) al (.inl (x / y) :: st) σ v σ') := by
  by_cases e : y = 0
  · exact (jE_stuck (by rw [jst_of hF]; simp only [jexe]; rw [if_pos e])).trans ⟨fun h => h.elim, fun h => h.1 e⟩
  · exact (jE_next (by rw [jst_of hF]; simp only [jexe]; rw [if_neg e])).trans ⟨fun h => ⟨e, h⟩, fun h => h.2⟩
theorem jg_irem (hF : jF m pc = some (.irem, 1)) : jE d m pc al (.inl y :: .inl x :: st) σ v σ' ↔ (¬ y = 0 ∧ jE d m (pc + 1) al (.inl (x % y) :: st) σ v σ') := by
  by_cases e : y = 0
  · exact (jE_stuck (by rw [jst_of hF]; simp only [jexe]; rw [if_pos e])).trans ⟨fun h => h.elim, fun h => h.1 e⟩
  · exact (jE_next (by rw [jst_of hF]; simp only [jexe]; rw [if_neg e])).trans ⟨fun h => ⟨e, h⟩, fun h => h.2⟩
theorem jg_lrem (hF : jF m pc = some (.lrem, 1)) : jE d m pc al (.inr (.inl h) :: .inr (.inl k) :: st) σ v σ' ↔ (¬ h = 0 ∧ jE d m (pc + 1) al (.inr (.inl (k % h)) :: st) σ v σ') := by
  by_cases e : h = 0
  · exact (jE_stuck (by rw [jst_of hF]; simp only [jexe]; rw [if_pos e])).trans ⟨fun h => h.elim, fun h => h.1 e⟩
  · exact (jE_next (by rw [jst_of hF]; simp only [jexe]; rw [if_neg e])).trans ⟨fun h => ⟨e, h⟩, fun h => h.2⟩
theorem jg_ifCond_eq (hF : jF m pc = some (.ifCond .eq off, 3)) (h0 : 0 ≤ (pc : Int) + off) (ht : jTg pc off = tg) (hn : pc + 3 = nx) : jE d m pc al (.inl x :: st) σ v σ' ↔ (if x = 0 then jE d m tg al st σ v σ' else jE d m nx al st σ v σ') := by
  subst ht; subst hn
  refine Iff.trans (jE_next ?_) jE_ite
  rw [jst_of hF]
  show jbr pc 3 al st σ off (x = 0) = _
  unfold jbr
  rw [if_pos ⟨h0, rfl⟩]
theorem jg_ifCond_ne (hF : jF m pc = some (.ifCond .ne off, 3)) (h0 : 0 ≤ (pc : Int) + off) (ht : jTg pc off = tg) (hn : pc + 3 = nx) : jE d m pc al (.inl x :: st) σ v σ' ↔ (if ¬ x = 0 then jE d m tg al st σ v σ' else jE d m nx al st σ v σ') := by
  subst ht; subst hn
  refine Iff.trans (jE_next ?_) jE_ite
  rw [jst_of hF]
  show jbr pc 3 al st σ off (¬ x = 0) = _
  unfold jbr
  rw [if_pos ⟨h0, rfl⟩]
theorem jg_ifCond_lt (hF : jF m pc = some (.ifCond .lt off, 3)) (h0 : 0 ≤ (pc : Int) + off) (ht : jTg pc off = tg) (hn : pc + 3 = nx) : jE d m pc al (.inl x :: st) σ v σ' ↔ (if x < 0 then jE d m tg al st σ v σ' else jE d m nx al st σ v σ') := by
  subst ht; subst hn
  refine Iff.trans (jE_next ?_) jE_ite
  rw [jst_of hF]
  show jbr pc 3 al st σ off (x < 0) = _
  unfold jbr
  rw [if_pos ⟨h0, rfl⟩]
theorem jg_ifCond_ge (hF : jF m pc = some (.ifCond .ge off, 3)) (h0 : 0 ≤ (pc : Int) + off) (ht : jTg pc off = tg) (hn : pc + 3 = nx) : jE d m pc al (.inl x :: st) σ v σ' ↔ (if 0 ≤ x then jE d m tg al st σ v σ' else jE d m nx al st σ v σ') := by
  subst ht; subst hn
  refine Iff.trans (jE_next ?_) jE_ite
  rw [jst_of hF]
  show jbr pc 3 al st σ off (0 ≤ x) = _
  unfold jbr
  rw [if_pos ⟨h0, rfl⟩]
theorem jg_ifCond_gt (hF : jF m pc = some (.ifCond .gt off, 3)) (h0 : 0 ≤ (pc : Int) + off) (ht : jTg pc off = tg) (hn : pc + 3 = nx) : jE d m pc al (.inl x :: st) σ v σ' ↔ (if 0 < x then jE d m tg al st σ v σ' else jE d m nx al st σ v σ') := by
  subst ht; subst hn
  refine Iff.trans (jE_next ?_) jE_ite
  rw [jst_of hF]
  show jbr pc 3 al st σ off (0 < x) = _
  unfold jbr
  rw [if_pos ⟨h0, rfl⟩]
theorem jg_ifCond_le (hF : jF m pc = some (.ifCond .le off, 3)) (h0 : 0 ≤ (pc : Int) + off) (ht : jTg pc off = tg) (hn : pc + 3 = nx) : jE d m pc al (.inl x :: st) σ v σ' ↔ (if x ≤ 0 then jE d m tg al st σ v σ' else jE d m nx al st σ v σ') := by
  subst ht; subst hn
  refine Iff.trans (jE_next ?_) jE_ite
  rw [jst_of hF]
  show jbr pc 3 al st σ off (x ≤ 0) = _
  unfold jbr
  rw [if_pos ⟨h0, rfl⟩]
theorem jg_if_icmp_eq (hF : jF m pc = some (.if_icmp .eq off, 3)) (h0 : 0 ≤ (pc : Int) + off) (ht : jTg pc off = tg) (hn : pc + 3 = nx) : jE d m pc al (.inl y :: .inl x :: st) σ v σ' ↔ (if x = y then jE d m tg al st σ v σ' else jE d m nx al st σ v σ') := by
  subst ht; subst hn
  refine Iff.trans (jE_next ?_) jE_ite
  rw [jst_of hF]
  show jbr pc 3 al st σ off (x = y) = _
  unfold jbr
  rw [if_pos ⟨h0, rfl⟩]
theorem jg_if_icmp_ne (hF : jF m pc = some (.if_icmp .ne off, 3)) (h0 : 0 ≤ (pc : Int) + off) (ht : jTg pc off = tg) (hn : pc + 3 = nx) : jE d m pc al (.inl y :: .inl x :: st) σ v σ' ↔ (if ¬ x = y then jE d m tg al st σ v σ' else jE d m nx al st σ v σ') := by
  subst ht; subst hn
  refine Iff.trans (jE_next ?_) jE_ite
  rw [jst_of hF]
  show jbr pc 3 al st σ off (¬ x = y) = _
  unfold jbr
  rw [if_pos ⟨h0, rfl⟩]
theorem jg_if_icmp_lt (hF : jF m pc = some (.if_icmp .lt off, 3)) (h0 : 0 ≤ (pc : Int) + off) (ht : jTg pc off = tg) (hn : pc + 3 = nx) : jE d m pc al (.inl y :: .inl x :: st) σ v σ' ↔ (if x < y then jE d m tg al st σ v σ' else jE d m nx al st σ v σ') := by
  subst ht; subst hn
  refine Iff.trans (jE_next ?_) jE_ite
  rw [jst_of hF]
  show jbr pc 3 al st σ off (x < y) = _
  unfold jbr
  rw [if_pos ⟨h0, rfl⟩]
theorem jg_if_icmp_ge (hF : jF m pc = some (.if_icmp .ge off, 3)) (h0 : 0 ≤ (pc : Int) + off) (ht : jTg pc off = tg) (hn : pc + 3 = nx) : jE d m pc al (.inl y :: .inl x :: st) σ v σ' ↔ (if y ≤ x then jE d m tg al st σ v σ' else jE d m nx al st σ v σ') := by
  subst ht; subst hn
  refine Iff.trans (jE_next ?_) jE_ite
  rw [jst_of hF]
  show jbr pc 3 al st σ off (y ≤ x) = _
  unfold jbr
  rw [if_pos ⟨h0, rfl⟩]
theorem jg_if_icmp_gt (hF : jF m pc = some (.if_icmp .gt off, 3)) (h0 : 0 ≤ (pc : Int) + off) (ht : jTg pc off = tg) (hn : pc + 3 = nx) : jE d m pc al (.inl y :: .inl x :: st) σ v σ' ↔ (if y < x then jE d m tg al st σ v σ' else jE d m nx al st σ v σ') := by
  subst ht; subst hn
  refine Iff.trans (jE_next ?_) jE_ite
  rw [jst_of hF]
  show jbr pc 3 al st σ off (y < x) = _
  unfold jbr
  rw [if_pos ⟨h0, rfl⟩]
theorem jg_if_icmp_le (hF : jF m pc = some (.if_icmp .le off, 3)) (h0 : 0 ≤ (pc : Int) + off) (ht : jTg pc off = tg) (hn : pc + 3 = nx) : jE d m pc al (.inl y :: .inl x :: st) σ v σ' ↔ (if x ≤ y then jE d m tg al st σ v σ' else jE d m nx al st σ v σ') := by
  subst ht; subst hn
  refine Iff.trans (jE_next ?_) jE_ite
  rw [jst_of hF]
  show jbr pc 3 al st σ off (x ≤ y) = _
  unfold jbr
  rw [if_pos ⟨h0, rfl⟩]
theorem jg_ifnull (hF : jF m pc = some (.ifnull off, 3)) (h0 : 0 ≤ (pc : Int) + off) (ht : jTg pc off = tg) (hn : pc + 3 = nx) : jE d m pc al (.inr (.inr o) :: st) σ v σ' ↔ (if o = none then jE d m tg al st σ v σ' else jE d m nx al st σ v σ') := by
  subst ht; subst hn
  cases o with
  | none =>
    rw [if_pos rfl]
    refine jE_next ?_
    rw [jst_of hF]
    show jbr pc 3 al st σ off True = _
    unfold jbr
    rw [if_pos ⟨h0, rfl⟩, if_pos trivial]
  | some r =>
    rw [if_neg (fun z => by cases z)]
    refine jE_next ?_
    rw [jst_of hF]
    show jbr pc 3 al st σ off False = _
    unfold jbr
    rw [if_pos ⟨h0, rfl⟩, if_neg (fun z => z)]
theorem jg_ifnonnull (hF : jF m pc = some (.ifnonnull off, 3)) (h0 : 0 ≤ (pc : Int) + off) (ht : jTg pc off = tg) (hn : pc + 3 = nx) : jE d m pc al (.inr (.inr o) :: st) σ v σ' ↔ (if o = none then jE d m nx al st σ v σ' else jE d m tg al st σ v σ') := by
  subst ht; subst hn
  cases o with
  | none =>
    rw [if_pos rfl]
    refine jE_next ?_
    rw [jst_of hF]
    show jbr pc 3 al st σ off False = _
    unfold jbr
    rw [if_pos ⟨h0, rfl⟩, if_neg (fun z => z)]
  | some r =>
    rw [if_neg (fun z => by cases z)]
    refine jE_next ?_
    rw [jst_of hF]
    show jbr pc 3 al st σ off True = _
    unfold jbr
    rw [if_pos ⟨h0, rfl⟩, if_pos trivial]
theorem jg_put (hF : jF m pc = some (.putfield i, 3)) (hl : (jFldT.getD (jOwn m) []).lookup i = some (kk, s)) (hr : (jIsRefT.getD kk []).getD s false = false) (hz : ¬ (kk = 11 ∧ s = 14)) : jE d m pc al (.inl x :: .inr (.inr (some (kk, a))) :: st) (n, (P, M)) v σ' ↔ jE d m (pc + 3) al st (n, (P, jUp M kk a s x)) v σ' := by
  exact jE_next (by rw [jst_of hF]; simp only [jexe]; rw [hl]; dsimp only; rw [if_pos ⟨rfl, hr, fun z => absurd z hz⟩])
theorem jg_putZ (hF : jF m pc = some (.putfield i, 3)) (hl : (jFldT.getD (jOwn m) []).lookup i = some (11, 14)) (hr : (jIsRefT.getD 11 []).getD 14 false = false) : jE d m pc al (.inl x :: .inr (.inr (some (11, a))) :: st) (n, (P, M)) v σ' ↔ ((x = 0 ∨ x = 1) ∧ jE d m (pc + 3) al st (n, (P, jUp M 11 a 14 x)) v σ') := by
  by_cases e : x = 0 ∨ x = 1
  · exact (jE_next (by rw [jst_of hF]; simp only [jexe]; rw [hl]; dsimp only; rw [if_pos ⟨rfl, hr, fun _ => e⟩])).trans ⟨fun h => ⟨e, h⟩, fun h => h.2⟩
  · exact (jE_stuck (by rw [jst_of hF]; simp only [jexe]; rw [hl]; dsimp only; rw [if_neg (fun z => e (z.2.2 ⟨rfl, rfl⟩))])).trans ⟨fun h => h.elim, fun h => e h.1⟩
theorem jg_iaload (hF : jF m pc = some (.iaload, 1)) : jE d m pc al (.inl x :: .inr (.inr (some (12, a))) :: st) (n, (P, M)) v σ' ↔ ((0 ≤ x ∧ x.toNatClampNeg < jLen 12 a) ∧ jE d m (pc + 1) al (.inl (M 12 a x.toNatClampNeg) :: st) (n, (P, M)) v σ') := by
  by_cases e : 0 ≤ x ∧ x.toNatClampNeg < jLen 12 a
  · exact (jE_next (by rw [jst_of hF]; simp only [jexe, if_true]; rw [if_pos e])).trans ⟨fun h => ⟨e, h⟩, fun h => h.2⟩
  · exact (jE_stuck (by rw [jst_of hF]; simp only [jexe, if_true]; rw [if_neg e])).trans ⟨fun h => h.elim, fun h => e h.1⟩
theorem jg_scrld (hF : jF m pc = some (.iaload, 1)) : jE d m pc al (.inl x :: .inr (.inr (some (17, (0, 0)))) :: st) (n, (P, M)) v σ' ↔ ((0 ≤ x ∧ x.toNatClampNeg < (jSL M).toNatClampNeg) ∧ jE d m (pc + 1) al (.inl (M 17 (0, 0) x.toNatClampNeg) :: st) (n, (P, M)) v σ') := by
  by_cases e : 0 ≤ x ∧ x.toNatClampNeg < (jSL M).toNatClampNeg
  · exact (jE_next (by rw [jst_of hF]; simp only [jexe]; rw [if_neg (by decide), if_pos trivial, if_pos e])).trans ⟨fun h => ⟨e, h⟩, fun h => h.2⟩
  · exact (jE_stuck (by rw [jst_of hF]; simp only [jexe]; rw [if_neg (by decide), if_pos trivial, if_neg e])).trans ⟨fun h => h.elim, fun h => e h.1⟩
theorem jg_baload (hF : jF m pc = some (.baload, 1)) (hk : kk = 13 ∨ kk = 14) : jE d m pc al (.inl x :: .inr (.inr (some (kk, a))) :: st) (n, (P, M)) v σ' ↔ ((0 ≤ x ∧ x.toNatClampNeg < jLen kk a) ∧ jE d m (pc + 1) al (.inl (M kk a x.toNatClampNeg) :: st) (n, (P, M)) v σ') := by
  by_cases e : 0 ≤ x ∧ x.toNatClampNeg < jLen kk a
  · exact (jE_next (by rw [jst_of hF]; simp only [jexe]; rw [if_pos ⟨hk, e⟩])).trans ⟨fun h => ⟨e, h⟩, fun h => h.2⟩
  · exact (jE_stuck (by rw [jst_of hF]; simp only [jexe]; rw [if_neg (fun z => e z.2)])).trans ⟨fun h => h.elim, fun h => e h.1⟩
theorem jg_iastore (hF : jF m pc = some (.iastore, 1)) : jE d m pc al (.inl y :: .inl x :: .inr (.inr (some (12, a))) :: st) (n, (P, M)) v σ' ↔ ((0 ≤ x ∧ x.toNatClampNeg < jLen 12 a) ∧ jE d m (pc + 1) al st (n, (P, jUp M 12 a x.toNatClampNeg y)) v σ') := by
  by_cases e : 0 ≤ x ∧ x.toNatClampNeg < jLen 12 a
  · exact (jE_next (by rw [jst_of hF]; simp only [jexe]; rw [if_pos ⟨trivial, e⟩])).trans ⟨fun h => ⟨e, h⟩, fun h => h.2⟩
  · exact (jE_stuck (by rw [jst_of hF]; simp only [jexe]; rw [if_neg (fun z => e z.2)])).trans ⟨fun h => h.elim, fun h => e h.1⟩
theorem jg_bastore13 (hF : jF m pc = some (.bastore, 1)) : jE d m pc al (.inl y :: .inl x :: .inr (.inr (some (13, a))) :: st) (n, (P, M)) v σ' ↔ (((y = 0 ∨ y = 1) ∧ 0 ≤ x ∧ x.toNatClampNeg < jLen 13 a) ∧ jE d m (pc + 1) al st (n, (P, jUp M 13 a x.toNatClampNeg y)) v σ') := by
  by_cases e : (y = 0 ∨ y = 1) ∧ 0 ≤ x ∧ x.toNatClampNeg < jLen 13 a
  · exact (jE_next (by rw [jst_of hF]; simp only [jexe]; rw [if_pos ⟨Or.inl ⟨trivial, e.1⟩, e.2⟩])).trans ⟨fun h => ⟨e, h⟩, fun h => h.2⟩
  · exact (jE_stuck (by rw [jst_of hF]; simp only [jexe]; rw [if_neg (fun z => e ⟨by rcases z.1 with q | q <;> first | exact q.2 | exact absurd q.1 (by decide), z.2⟩)])).trans ⟨fun h => h.elim, fun h => e h.1⟩
theorem jg_bastore14 (hF : jF m pc = some (.bastore, 1)) : jE d m pc al (.inl y :: .inl x :: .inr (.inr (some (14, a))) :: st) (n, (P, M)) v σ' ↔ ((y.toInt8.toInt32 = y ∧ 0 ≤ x ∧ x.toNatClampNeg < jLen 14 a) ∧ jE d m (pc + 1) al st (n, (P, jUp M 14 a x.toNatClampNeg y)) v σ') := by
  by_cases e : y.toInt8.toInt32 = y ∧ 0 ≤ x ∧ x.toNatClampNeg < jLen 14 a
  · exact (jE_next (by rw [jst_of hF]; simp only [jexe]; rw [if_pos ⟨Or.inr ⟨trivial, e.1⟩, e.2⟩])).trans ⟨fun h => ⟨e, h⟩, fun h => h.2⟩
  · exact (jE_stuck (by rw [jst_of hF]; simp only [jexe]; rw [if_neg (fun z => e ⟨by rcases z.1 with q | q <;> first | exact q.2 | exact absurd q.1 (by decide), z.2⟩)])).trans ⟨fun h => h.elim, fun h => e h.1⟩
theorem jg_aaload (hF : jF m pc = some (.aaload, 1)) (hk : kk = 15 ∨ kk = 16) : jE d m pc al (.inl x :: .inr (.inr (some (kk, a))) :: st) (n, ([], M)) v σ' ↔ ((0 ≤ x ∧ x.toNatClampNeg < jLen kk a) ∧ jE d m (pc + 1) al (.inr (.inr (some (jrf kk a x.toNatClampNeg))) :: st) (n, ([], M)) v σ') := by
  by_cases e : 0 ≤ x ∧ x.toNatClampNeg < jLen kk a
  · exact (jE_next (by rw [jst_of hF]; simp only [jexe]; rw [if_pos ⟨hk, e⟩]; rfl)).trans ⟨fun h => ⟨e, h⟩, fun h => h.2⟩
  · exact (jE_stuck (by rw [jst_of hF]; simp only [jexe]; rw [if_neg (fun z => e z.2)])).trans ⟨fun h => h.elim, fun h => e h.1⟩
theorem jg_copy (hF : jF m pc = some (.invokestatic i, 3)) (hl : (jMthT.getD (jOwn m) []).lookup i = some 900) : jE d m pc al (.inl z :: .inl y :: .inr (.inr (some (12, b))) :: .inl x :: .inr (.inr (some (12, a))) :: []) (n, (P, M)) v σ' ↔ ((0 ≤ x ∧ 0 ≤ y ∧ 0 ≤ z ∧ x.toNatClampNeg + z.toNatClampNeg ≤ jLen 12 a ∧ y.toNatClampNeg + z.toNatClampNeg ≤ jLen 12 b) ∧ jE d m (pc + 3) al [] (n, (P, jCp M a b x.toNatClampNeg y.toNatClampNeg z.toNatClampNeg)) v σ') := by
  by_cases e : 0 ≤ x ∧ 0 ≤ y ∧ 0 ≤ z ∧ x.toNatClampNeg + z.toNatClampNeg ≤ jLen 12 a ∧ y.toNatClampNeg + z.toNatClampNeg ≤ jLen 12 b
  · exact (jE_next (by rw [jst_of hF]; simp only [jexe]; rw [hl]; rw [if_pos ⟨by simp, e⟩]; rfl)).trans ⟨fun h => ⟨e, h⟩, fun h => h.2⟩
  · exact (jE_stuck (by rw [jst_of hF]; simp only [jexe]; rw [hl]; rw [if_neg (fun z => e z.2)]; rfl)).trans ⟨fun h => h.elim, fun h => e h.1⟩
theorem jg_zret (hF : jF m pc = some (.ireturn, 1)) (hr : jRetT.getD m none = some .boolean) : jE d m pc al (.inl x :: []) σ v σ' ↔ ((x = 0 ∨ x = 1) ∧ v = some (.inl x) ∧ σ' = σ) := by
  have key : jstep m pc al (.inl x :: []) σ = if jnar (some .boolean) (jI x) = true then some (.inr (.inr (some (jI x)))) else none := by
    rw [jst_of hF, ← hr]
    rfl
  by_cases e : x = 0 ∨ x = 1
  · exact (jE_ret (by rw [key, if_pos (show jnar (some .boolean) (jI x) = true from decide_eq_true e)])).trans ⟨fun h => ⟨e, h⟩, fun h => h.2⟩
  · exact (jE_stuck (by rw [key, if_neg (fun z : jnar (some .boolean) (jI x) = true => e (of_decide_eq_true (show decide (x = 0 ∨ x = 1) = true from z)))])).trans ⟨fun h => h.elim, fun h => e h.1⟩
end JG
end
section
section STEPS
variable {d n : Nat} {al : jL} {st : List jV} {σ σ' : jS} {v : Option jV} {x y z w u : Int32} {k h : Int64} {o o1 o2 o3 : Option jR} {r : jR} {a b : jA} {P : List (jR × Nat)} {M : jM} {a0 a1 a2 a3 a4 a5 a6 a7 a8 : Option jV} {r0 r1 r2 r3 : jV}
/-! Row.init (I)V -/
theorem s58_0 : jE d 58 0 [some (.inr (.inr o)), a1] st σ v σ' ↔ jE d 58 1 [some (.inr (.inr o)), a1] (.inr (.inr o) :: st) σ v σ' := (jE_next (by rw [jst_of (by decide +kernel : jF 58 0 = some (.aload_n 0, 1))]; rfl))
theorem s58_4 : jE d 58 4 [some (.inr (.inr o)), a1] st σ v σ' ↔ jE d 58 5 [some (.inr (.inr o)), a1] (.inr (.inr o) :: st) σ v σ' := (jE_next (by rw [jst_of (by decide +kernel : jF 58 4 = some (.aload_n 0, 1))]; rfl))
theorem s58_5 : jE d 58 5 [a0, some (.inl x)] st σ v σ' ↔ jE d 58 6 [a0, some (.inl x)] (.inl x :: st) σ v σ' := (jE_next (by rw [jst_of (by decide +kernel : jF 58 5 = some (.iload_n 1, 1))]; rfl))
theorem s58_6 : jE d 58 6 al (.inl x :: st) σ v σ' ↔ (if 0 ≤ x then jE d 58 13 al st σ v σ' else jE d 58 9 al st σ v σ') := jg_ifCond_ge (off := 7) (by decide +kernel) (by decide) rfl rfl
theorem s58_9 : jE d 58 9 al st σ v σ' ↔ jE d 58 10 al (.inl 0 :: st) σ v σ' := (jE_next (by rw [jst_of (by decide +kernel : jF 58 9 = some (.iconst 0, 1))]; rfl))
theorem s58_10 : jE d 58 10 al st σ v σ' ↔ jE d 58 14 al st σ v σ' := (jE_next (by rw [jst_of (by decide +kernel : jF 58 10 = some (.goto 4, 3))]; rfl))
theorem s58_13 : jE d 58 13 [a0, some (.inl x)] st σ v σ' ↔ jE d 58 14 [a0, some (.inl x)] (.inl x :: st) σ v σ' := (jE_next (by rw [jst_of (by decide +kernel : jF 58 13 = some (.iload_n 1, 1))]; rfl))
theorem s58_19 : jE d 58 19 al [] σ v σ' ↔ (v = none ∧ σ' = σ) := jE_ret (by rw [jst_of (by decide +kernel : jF 58 19 = some (.return_, 1))]; rfl)
/-! Row.at (I)I -/
theorem s59_0 : jE d 59 0 [a0, some (.inl x)] st σ v σ' ↔ jE d 59 1 [a0, some (.inl x)] (.inl x :: st) σ v σ' := (jE_next (by rw [jst_of (by decide +kernel : jF 59 0 = some (.iload_n 1, 1))]; rfl))
theorem s59_1 : jE d 59 1 al (.inl x :: st) σ v σ' ↔ (if x < 0 then jE d 59 22 al st σ v σ' else jE d 59 4 al st σ v σ') := jg_ifCond_lt (off := 21) (by decide +kernel) (by decide) rfl rfl
theorem s59_4 : jE d 59 4 [a0, some (.inl x)] st σ v σ' ↔ jE d 59 5 [a0, some (.inl x)] (.inl x :: st) σ v σ' := (jE_next (by rw [jst_of (by decide +kernel : jF 59 4 = some (.iload_n 1, 1))]; rfl))
theorem s59_5 : jE d 59 5 [some (.inr (.inr o)), a1] st σ v σ' ↔ jE d 59 6 [some (.inr (.inr o)), a1] (.inr (.inr o) :: st) σ v σ' := (jE_next (by rw [jst_of (by decide +kernel : jF 59 5 = some (.aload_n 0, 1))]; rfl))
theorem s59_6 : jE d 59 6 al (.inr (.inr (some (6, a))) :: st) (n, ([], M)) v σ' ↔ jE d 59 9 al (.inr (.inr (some (12, a))) :: st) (n, ([], M)) v σ' := (jE_next (by rw [jst_of (by decide +kernel : jF 59 6 = some (.getfield 9, 3))]; rfl))
theorem s59_9 : jE d 59 9 al (.inr (.inr (some (12, a))) :: st) σ v σ' ↔ jE d 59 10 al (.inl (Int32.ofNat (jLen 12 a)) :: st) σ v σ' := (jE_next (by rw [jst_of (by decide +kernel : jF 59 9 = some (.arraylength, 1))]; rfl))
theorem s59_10 : jE d 59 10 al (.inl y :: .inl x :: st) σ v σ' ↔ (if y ≤ x then jE d 59 22 al st σ v σ' else jE d 59 13 al st σ v σ') := jg_if_icmp_ge (off := 12) (by decide +kernel) (by decide) rfl rfl
theorem s59_13 : jE d 59 13 [some (.inr (.inr o)), a1] st σ v σ' ↔ jE d 59 14 [some (.inr (.inr o)), a1] (.inr (.inr o) :: st) σ v σ' := (jE_next (by rw [jst_of (by decide +kernel : jF 59 13 = some (.aload_n 0, 1))]; rfl))
theorem s59_14 : jE d 59 14 al (.inr (.inr (some (6, a))) :: st) (n, ([], M)) v σ' ↔ jE d 59 17 al (.inr (.inr (some (12, a))) :: st) (n, ([], M)) v σ' := (jE_next (by rw [jst_of (by decide +kernel : jF 59 14 = some (.getfield 9, 3))]; rfl))
theorem s59_17 : jE d 59 17 [a0, some (.inl x)] st σ v σ' ↔ jE d 59 18 [a0, some (.inl x)] (.inl x :: st) σ v σ' := (jE_next (by rw [jst_of (by decide +kernel : jF 59 17 = some (.iload_n 1, 1))]; rfl))
theorem s59_18 : jE d 59 18 al (.inl x :: .inr (.inr (some (12, a))) :: st) (n, (P, M)) v σ' ↔ ((0 ≤ x ∧ x.toNatClampNeg < jLen 12 a) ∧ jE d 59 19 al (.inl (M 12 a x.toNatClampNeg) :: st) (n, (P, M)) v σ') := jg_iaload (by decide +kernel)
theorem s59_19 : jE d 59 19 al st σ v σ' ↔ jE d 59 23 al st σ v σ' := (jE_next (by rw [jst_of (by decide +kernel : jF 59 19 = some (.goto 4, 3))]; rfl))
theorem s59_22 : jE d 59 22 al st σ v σ' ↔ jE d 59 23 al (.inl 0 :: st) σ v σ' := (jE_next (by rw [jst_of (by decide +kernel : jF 59 22 = some (.iconst 0, 1))]; rfl))
theorem s59_23 : jE d 59 23 al (.inl x :: []) σ v σ' ↔ (v = some (.inl x) ∧ σ' = σ) := jE_ret (by rw [jst_of (by decide +kernel : jF 59 23 = some (.ireturn, 1))]; rfl)
/-! Row.put (II)V -/
theorem s60_0 : jE d 60 0 [a0, some (.inl x), a2] st σ v σ' ↔ jE d 60 1 [a0, some (.inl x), a2] (.inl x :: st) σ v σ' := (jE_next (by rw [jst_of (by decide +kernel : jF 60 0 = some (.iload_n 1, 1))]; rfl))
theorem s60_1 : jE d 60 1 al (.inl x :: st) σ v σ' ↔ (if x < 0 then jE d 60 20 al st σ v σ' else jE d 60 4 al st σ v σ') := jg_ifCond_lt (off := 19) (by decide +kernel) (by decide) rfl rfl
theorem s60_4 : jE d 60 4 [a0, some (.inl x), a2] st σ v σ' ↔ jE d 60 5 [a0, some (.inl x), a2] (.inl x :: st) σ v σ' := (jE_next (by rw [jst_of (by decide +kernel : jF 60 4 = some (.iload_n 1, 1))]; rfl))
theorem s60_5 : jE d 60 5 [some (.inr (.inr o)), a1, a2] st σ v σ' ↔ jE d 60 6 [some (.inr (.inr o)), a1, a2] (.inr (.inr o) :: st) σ v σ' := (jE_next (by rw [jst_of (by decide +kernel : jF 60 5 = some (.aload_n 0, 1))]; rfl))
theorem s60_6 : jE d 60 6 al (.inr (.inr (some (6, a))) :: st) (n, ([], M)) v σ' ↔ jE d 60 9 al (.inr (.inr (some (12, a))) :: st) (n, ([], M)) v σ' := (jE_next (by rw [jst_of (by decide +kernel : jF 60 6 = some (.getfield 9, 3))]; rfl))
theorem s60_9 : jE d 60 9 al (.inr (.inr (some (12, a))) :: st) σ v σ' ↔ jE d 60 10 al (.inl (Int32.ofNat (jLen 12 a)) :: st) σ v σ' := (jE_next (by rw [jst_of (by decide +kernel : jF 60 9 = some (.arraylength, 1))]; rfl))
theorem s60_10 : jE d 60 10 al (.inl y :: .inl x :: st) σ v σ' ↔ (if y ≤ x then jE d 60 20 al st σ v σ' else jE d 60 13 al st σ v σ') := jg_if_icmp_ge (off := 10) (by decide +kernel) (by decide) rfl rfl
theorem s60_13 : jE d 60 13 [some (.inr (.inr o)), a1, a2] st σ v σ' ↔ jE d 60 14 [some (.inr (.inr o)), a1, a2] (.inr (.inr o) :: st) σ v σ' := (jE_next (by rw [jst_of (by decide +kernel : jF 60 13 = some (.aload_n 0, 1))]; rfl))
theorem s60_14 : jE d 60 14 al (.inr (.inr (some (6, a))) :: st) (n, ([], M)) v σ' ↔ jE d 60 17 al (.inr (.inr (some (12, a))) :: st) (n, ([], M)) v σ' := (jE_next (by rw [jst_of (by decide +kernel : jF 60 14 = some (.getfield 9, 3))]; rfl))
theorem s60_17 : jE d 60 17 [a0, some (.inl x), a2] st σ v σ' ↔ jE d 60 18 [a0, some (.inl x), a2] (.inl x :: st) σ v σ' := (jE_next (by rw [jst_of (by decide +kernel : jF 60 17 = some (.iload_n 1, 1))]; rfl))
theorem s60_18 : jE d 60 18 [a0, a1, some (.inl x)] st σ v σ' ↔ jE d 60 19 [a0, a1, some (.inl x)] (.inl x :: st) σ v σ' := (jE_next (by rw [jst_of (by decide +kernel : jF 60 18 = some (.iload_n 2, 1))]; rfl))
theorem s60_19 : jE d 60 19 al (.inl y :: .inl x :: .inr (.inr (some (12, a))) :: st) (n, (P, M)) v σ' ↔ ((0 ≤ x ∧ x.toNatClampNeg < jLen 12 a) ∧ jE d 60 20 al st (n, (P, jUp M 12 a x.toNatClampNeg y)) v σ') := jg_iastore (by decide +kernel)
theorem s60_20 : jE d 60 20 al [] σ v σ' ↔ (v = none ∧ σ' = σ) := jE_ret (by rw [jst_of (by decide +kernel : jF 60 20 = some (.return_, 1))]; rfl)
/-! Row.placeOf (II)I -/
theorem s61_0 : jE d 61 0 al st σ v σ' ↔ jE d 61 1 al (.inl 0 :: st) σ v σ' := (jE_next (by rw [jst_of (by decide +kernel : jF 61 0 = some (.iconst 0, 1))]; rfl))
theorem s61_1 : jE d 61 1 [a0, a1, a2, a3] (.inl x :: st) σ v σ' ↔ jE d 61 2 [a0, a1, a2, some (.inl x)] st σ v σ' := (jE_next (by rw [jst_of (by decide +kernel : jF 61 1 = some (.istore_n 3, 1))]; rfl))
theorem s61_2 : jE d 61 2 [a0, a1, a2, some (.inl x)] st σ v σ' ↔ jE d 61 3 [a0, a1, a2, some (.inl x)] (.inl x :: st) σ v σ' := (jE_next (by rw [jst_of (by decide +kernel : jF 61 2 = some (.iload_n 3, 1))]; rfl))
theorem s61_3 : jE d 61 3 [a0, a1, some (.inl x), a3] st σ v σ' ↔ jE d 61 4 [a0, a1, some (.inl x), a3] (.inl x :: st) σ v σ' := (jE_next (by rw [jst_of (by decide +kernel : jF 61 3 = some (.iload_n 2, 1))]; rfl))
theorem s61_4 : jE d 61 4 al (.inl y :: .inl x :: st) σ v σ' ↔ (if y ≤ x then jE d 61 24 al st σ v σ' else jE d 61 7 al st σ v σ') := jg_if_icmp_ge (off := 20) (by decide +kernel) (by decide) rfl rfl
theorem s61_7 : jE d 61 7 [some (.inr (.inr o)), a1, a2, a3] st σ v σ' ↔ jE d 61 8 [some (.inr (.inr o)), a1, a2, a3] (.inr (.inr o) :: st) σ v σ' := (jE_next (by rw [jst_of (by decide +kernel : jF 61 7 = some (.aload_n 0, 1))]; rfl))
theorem s61_8 : jE d 61 8 [a0, a1, a2, some (.inl x)] st σ v σ' ↔ jE d 61 9 [a0, a1, a2, some (.inl x)] (.inl x :: st) σ v σ' := (jE_next (by rw [jst_of (by decide +kernel : jF 61 8 = some (.iload_n 3, 1))]; rfl))
theorem s61_9 : jE (d + 1) 61 9 al (.inl x :: .inr (.inr (some (6, a))) :: []) σ v σ' ↔ (∃ (v1 : Option jV) (s1 : jS), jE d 59 0 [some (.inr (.inr (some (6, a)))), some (.inl x)] [] σ v1 s1 ∧ jE (d + 1) 61 12 al (v1.toList ++ []) s1 v σ') := jE_call (m' := 59) (as := [.inr (.inr (some (6, a))), .inl x]) (rest := []) (by rw [jst_of (by decide +kernel : jF 61 9 = some (.invokevirtual 15, 3))]; rfl)
theorem s61_12 : jE d 61 12 [a0, some (.inl x), a2, a3] st σ v σ' ↔ jE d 61 13 [a0, some (.inl x), a2, a3] (.inl x :: st) σ v σ' := (jE_next (by rw [jst_of (by decide +kernel : jF 61 12 = some (.iload_n 1, 1))]; rfl))
theorem s61_13 : jE d 61 13 al (.inl y :: .inl x :: st) σ v σ' ↔ (if ¬ x = y then jE d 61 18 al st σ v σ' else jE d 61 16 al st σ v σ') := jg_if_icmp_ne (off := 5) (by decide +kernel) (by decide) rfl rfl
theorem s61_16 : jE d 61 16 [a0, a1, a2, some (.inl x)] st σ v σ' ↔ jE d 61 17 [a0, a1, a2, some (.inl x)] (.inl x :: st) σ v σ' := (jE_next (by rw [jst_of (by decide +kernel : jF 61 16 = some (.iload_n 3, 1))]; rfl))
theorem s61_17 : jE d 61 17 al (.inl x :: []) σ v σ' ↔ (v = some (.inl x) ∧ σ' = σ) := jE_ret (by rw [jst_of (by decide +kernel : jF 61 17 = some (.ireturn, 1))]; rfl)
theorem s61_18 : jE d 61 18 [a0, a1, a2, some (.inl x)] st σ v σ' ↔ jE d 61 21 [a0, a1, a2, some (.inl (x + 1))] st σ v σ' := (jE_next (by rw [jst_of (by decide +kernel : jF 61 18 = some (.iinc 3 1, 3))]; rfl))
theorem s61_21 : jE d 61 21 al st σ v σ' ↔ jE d 61 2 al st σ v σ' := (jE_next (by rw [jst_of (by decide +kernel : jF 61 21 = some (.goto (-19), 3))]; rfl))
theorem s61_24 : jE d 61 24 al st σ v σ' ↔ jE d 61 26 al (.inl (-4) :: st) σ v σ' := (jE_next (by rw [jst_of (by decide +kernel : jF 61 24 = some (.bipush (-4), 2))]; rfl))
theorem s61_26 : jE d 61 26 al (.inl x :: []) σ v σ' ↔ (v = some (.inl x) ∧ σ' = σ) := jE_ret (by rw [jst_of (by decide +kernel : jF 61 26 = some (.ireturn, 1))]; rfl)
/-! Row.trade (II)V -/
theorem s62_0 : jE d 62 0 [some (.inr (.inr o)), a1, a2, a3] st σ v σ' ↔ jE d 62 1 [some (.inr (.inr o)), a1, a2, a3] (.inr (.inr o) :: st) σ v σ' := (jE_next (by rw [jst_of (by decide +kernel : jF 62 0 = some (.aload_n 0, 1))]; rfl))
theorem s62_1 : jE d 62 1 [a0, some (.inl x), a2, a3] st σ v σ' ↔ jE d 62 2 [a0, some (.inl x), a2, a3] (.inl x :: st) σ v σ' := (jE_next (by rw [jst_of (by decide +kernel : jF 62 1 = some (.iload_n 1, 1))]; rfl))
theorem s62_2 : jE (d + 1) 62 2 al (.inl x :: .inr (.inr (some (6, a))) :: []) σ v σ' ↔ (∃ (v1 : Option jV) (s1 : jS), jE d 59 0 [some (.inr (.inr (some (6, a)))), some (.inl x)] [] σ v1 s1 ∧ jE (d + 1) 62 5 al (v1.toList ++ []) s1 v σ') := jE_call (m' := 59) (as := [.inr (.inr (some (6, a))), .inl x]) (rest := []) (by rw [jst_of (by decide +kernel : jF 62 2 = some (.invokevirtual 15, 3))]; rfl)
theorem s62_5 : jE d 62 5 [a0, a1, a2, a3] (.inl x :: st) σ v σ' ↔ jE d 62 6 [a0, a1, a2, some (.inl x)] st σ v σ' := (jE_next (by rw [jst_of (by decide +kernel : jF 62 5 = some (.istore_n 3, 1))]; rfl))
theorem s62_6 : jE d 62 6 [some (.inr (.inr o)), a1, a2, a3] st σ v σ' ↔ jE d 62 7 [some (.inr (.inr o)), a1, a2, a3] (.inr (.inr o) :: st) σ v σ' := (jE_next (by rw [jst_of (by decide +kernel : jF 62 6 = some (.aload_n 0, 1))]; rfl))
theorem s62_7 : jE d 62 7 [a0, some (.inl x), a2, a3] st σ v σ' ↔ jE d 62 8 [a0, some (.inl x), a2, a3] (.inl x :: st) σ v σ' := (jE_next (by rw [jst_of (by decide +kernel : jF 62 7 = some (.iload_n 1, 1))]; rfl))
theorem s62_8 : jE d 62 8 [some (.inr (.inr o)), a1, a2, a3] st σ v σ' ↔ jE d 62 9 [some (.inr (.inr o)), a1, a2, a3] (.inr (.inr o) :: st) σ v σ' := (jE_next (by rw [jst_of (by decide +kernel : jF 62 8 = some (.aload_n 0, 1))]; rfl))
theorem s62_9 : jE d 62 9 [a0, a1, some (.inl x), a3] st σ v σ' ↔ jE d 62 10 [a0, a1, some (.inl x), a3] (.inl x :: st) σ v σ' := (jE_next (by rw [jst_of (by decide +kernel : jF 62 9 = some (.iload_n 2, 1))]; rfl))
theorem s62_10 : jE (d + 1) 62 10 al (.inl x :: .inr (.inr (some (6, a))) :: [r0, r1]) σ v σ' ↔ (∃ (v1 : Option jV) (s1 : jS), jE d 59 0 [some (.inr (.inr (some (6, a)))), some (.inl x)] [] σ v1 s1 ∧ jE (d + 1) 62 13 al (v1.toList ++ [r0, r1]) s1 v σ') := jE_call (m' := 59) (as := [.inr (.inr (some (6, a))), .inl x]) (rest := [r0, r1]) (by rw [jst_of (by decide +kernel : jF 62 10 = some (.invokevirtual 15, 3))]; rfl)
theorem s62_13 : jE (d + 1) 62 13 al (.inl y :: .inl x :: .inr (.inr (some (6, a))) :: []) σ v σ' ↔ (∃ (v1 : Option jV) (s1 : jS), jE d 60 0 [some (.inr (.inr (some (6, a)))), some (.inl x), some (.inl y)] [] σ v1 s1 ∧ jE (d + 1) 62 16 al (v1.toList ++ []) s1 v σ') := jE_call (m' := 60) (as := [.inr (.inr (some (6, a))), .inl x, .inl y]) (rest := []) (by rw [jst_of (by decide +kernel : jF 62 13 = some (.invokevirtual 19, 3))]; rfl)
theorem s62_16 : jE d 62 16 [some (.inr (.inr o)), a1, a2, a3] st σ v σ' ↔ jE d 62 17 [some (.inr (.inr o)), a1, a2, a3] (.inr (.inr o) :: st) σ v σ' := (jE_next (by rw [jst_of (by decide +kernel : jF 62 16 = some (.aload_n 0, 1))]; rfl))
theorem s62_17 : jE d 62 17 [a0, a1, some (.inl x), a3] st σ v σ' ↔ jE d 62 18 [a0, a1, some (.inl x), a3] (.inl x :: st) σ v σ' := (jE_next (by rw [jst_of (by decide +kernel : jF 62 17 = some (.iload_n 2, 1))]; rfl))
theorem s62_18 : jE d 62 18 [a0, a1, a2, some (.inl x)] st σ v σ' ↔ jE d 62 19 [a0, a1, a2, some (.inl x)] (.inl x :: st) σ v σ' := (jE_next (by rw [jst_of (by decide +kernel : jF 62 18 = some (.iload_n 3, 1))]; rfl))
theorem s62_19 : jE (d + 1) 62 19 al (.inl y :: .inl x :: .inr (.inr (some (6, a))) :: []) σ v σ' ↔ (∃ (v1 : Option jV) (s1 : jS), jE d 60 0 [some (.inr (.inr (some (6, a)))), some (.inl x), some (.inl y)] [] σ v1 s1 ∧ jE (d + 1) 62 22 al (v1.toList ++ []) s1 v σ') := jE_call (m' := 60) (as := [.inr (.inr (some (6, a))), .inl x, .inl y]) (rest := []) (by rw [jst_of (by decide +kernel : jF 62 19 = some (.invokevirtual 19, 3))]; rfl)
theorem s62_22 : jE d 62 22 al [] σ v σ' ↔ (v = none ∧ σ' = σ) := jE_ret (by rw [jst_of (by decide +kernel : jF 62 22 = some (.return_, 1))]; rfl)
/-! Row.insert (III)V -/
theorem s63_0 : jE d 63 0 [a0, a1, a2, some (.inl x), a4] st σ v σ' ↔ jE d 63 1 [a0, a1, a2, some (.inl x), a4] (.inl x :: st) σ v σ' := (jE_next (by rw [jst_of (by decide +kernel : jF 63 0 = some (.iload_n 3, 1))]; rfl))
theorem s63_1 : jE d 63 1 [a0, a1, a2, a3, a4] (.inl x :: st) σ v σ' ↔ jE d 63 3 [a0, a1, a2, a3, some (.inl x)] st σ v σ' := (jE_next (by rw [jst_of (by decide +kernel : jF 63 1 = some (.istore 4, 2))]; rfl))
theorem s63_3 : jE d 63 3 [a0, a1, a2, a3, some (.inl x)] st σ v σ' ↔ jE d 63 5 [a0, a1, a2, a3, some (.inl x)] (.inl x :: st) σ v σ' := (jE_next (by rw [jst_of (by decide +kernel : jF 63 3 = some (.iload 4, 2))]; rfl))
theorem s63_5 : jE d 63 5 [a0, some (.inl x), a2, a3, a4] st σ v σ' ↔ jE d 63 6 [a0, some (.inl x), a2, a3, a4] (.inl x :: st) σ v σ' := (jE_next (by rw [jst_of (by decide +kernel : jF 63 5 = some (.iload_n 1, 1))]; rfl))
theorem s63_6 : jE d 63 6 al (.inl y :: .inl x :: st) σ v σ' ↔ (if x ≤ y then jE d 63 29 al st σ v σ' else jE d 63 9 al st σ v σ') := jg_if_icmp_le (off := 23) (by decide +kernel) (by decide) rfl rfl
theorem s63_9 : jE d 63 9 [some (.inr (.inr o)), a1, a2, a3, a4] st σ v σ' ↔ jE d 63 10 [some (.inr (.inr o)), a1, a2, a3, a4] (.inr (.inr o) :: st) σ v σ' := (jE_next (by rw [jst_of (by decide +kernel : jF 63 9 = some (.aload_n 0, 1))]; rfl))
theorem s63_10 : jE d 63 10 [a0, a1, a2, a3, some (.inl x)] st σ v σ' ↔ jE d 63 12 [a0, a1, a2, a3, some (.inl x)] (.inl x :: st) σ v σ' := (jE_next (by rw [jst_of (by decide +kernel : jF 63 10 = some (.iload 4, 2))]; rfl))
theorem s63_12 : jE d 63 12 [some (.inr (.inr o)), a1, a2, a3, a4] st σ v σ' ↔ jE d 63 13 [some (.inr (.inr o)), a1, a2, a3, a4] (.inr (.inr o) :: st) σ v σ' := (jE_next (by rw [jst_of (by decide +kernel : jF 63 12 = some (.aload_n 0, 1))]; rfl))
theorem s63_13 : jE d 63 13 [a0, a1, a2, a3, some (.inl x)] st σ v σ' ↔ jE d 63 15 [a0, a1, a2, a3, some (.inl x)] (.inl x :: st) σ v σ' := (jE_next (by rw [jst_of (by decide +kernel : jF 63 13 = some (.iload 4, 2))]; rfl))
theorem s63_15 : jE d 63 15 al st σ v σ' ↔ jE d 63 16 al (.inl 1 :: st) σ v σ' := (jE_next (by rw [jst_of (by decide +kernel : jF 63 15 = some (.iconst 1, 1))]; rfl))
theorem s63_16 : jE d 63 16 al (.inl y :: .inl x :: st) σ v σ' ↔ jE d 63 17 al (.inl (x - y) :: st) σ v σ' := (jE_next (by rw [jst_of (by decide +kernel : jF 63 16 = some (.isub, 1))]; rfl))
theorem s63_17 : jE (d + 1) 63 17 al (.inl x :: .inr (.inr (some (6, a))) :: [r0, r1]) σ v σ' ↔ (∃ (v1 : Option jV) (s1 : jS), jE d 59 0 [some (.inr (.inr (some (6, a)))), some (.inl x)] [] σ v1 s1 ∧ jE (d + 1) 63 20 al (v1.toList ++ [r0, r1]) s1 v σ') := jE_call (m' := 59) (as := [.inr (.inr (some (6, a))), .inl x]) (rest := [r0, r1]) (by rw [jst_of (by decide +kernel : jF 63 17 = some (.invokevirtual 15, 3))]; rfl)
theorem s63_20 : jE (d + 1) 63 20 al (.inl y :: .inl x :: .inr (.inr (some (6, a))) :: []) σ v σ' ↔ (∃ (v1 : Option jV) (s1 : jS), jE d 60 0 [some (.inr (.inr (some (6, a)))), some (.inl x), some (.inl y)] [] σ v1 s1 ∧ jE (d + 1) 63 23 al (v1.toList ++ []) s1 v σ') := jE_call (m' := 60) (as := [.inr (.inr (some (6, a))), .inl x, .inl y]) (rest := []) (by rw [jst_of (by decide +kernel : jF 63 20 = some (.invokevirtual 19, 3))]; rfl)
theorem s63_23 : jE d 63 23 [a0, a1, a2, a3, some (.inl x)] st σ v σ' ↔ jE d 63 26 [a0, a1, a2, a3, some (.inl (x + (-1)))] st σ v σ' := (jE_next (by rw [jst_of (by decide +kernel : jF 63 23 = some (.iinc 4 (-1), 3))]; rfl))
theorem s63_26 : jE d 63 26 al st σ v σ' ↔ jE d 63 3 al st σ v σ' := (jE_next (by rw [jst_of (by decide +kernel : jF 63 26 = some (.goto (-23), 3))]; rfl))
theorem s63_29 : jE d 63 29 [some (.inr (.inr o)), a1, a2, a3, a4] st σ v σ' ↔ jE d 63 30 [some (.inr (.inr o)), a1, a2, a3, a4] (.inr (.inr o) :: st) σ v σ' := (jE_next (by rw [jst_of (by decide +kernel : jF 63 29 = some (.aload_n 0, 1))]; rfl))
theorem s63_30 : jE d 63 30 [a0, some (.inl x), a2, a3, a4] st σ v σ' ↔ jE d 63 31 [a0, some (.inl x), a2, a3, a4] (.inl x :: st) σ v σ' := (jE_next (by rw [jst_of (by decide +kernel : jF 63 30 = some (.iload_n 1, 1))]; rfl))
theorem s63_31 : jE d 63 31 [a0, a1, some (.inl x), a3, a4] st σ v σ' ↔ jE d 63 32 [a0, a1, some (.inl x), a3, a4] (.inl x :: st) σ v σ' := (jE_next (by rw [jst_of (by decide +kernel : jF 63 31 = some (.iload_n 2, 1))]; rfl))
theorem s63_32 : jE (d + 1) 63 32 al (.inl y :: .inl x :: .inr (.inr (some (6, a))) :: []) σ v σ' ↔ (∃ (v1 : Option jV) (s1 : jS), jE d 60 0 [some (.inr (.inr (some (6, a)))), some (.inl x), some (.inl y)] [] σ v1 s1 ∧ jE (d + 1) 63 35 al (v1.toList ++ []) s1 v σ') := jE_call (m' := 60) (as := [.inr (.inr (some (6, a))), .inl x, .inl y]) (rest := []) (by rw [jst_of (by decide +kernel : jF 63 32 = some (.invokevirtual 19, 3))]; rfl)
theorem s63_35 : jE d 63 35 al [] σ v σ' ↔ (v = none ∧ σ' = σ) := jE_ret (by rw [jst_of (by decide +kernel : jF 63 35 = some (.return_, 1))]; rfl)
/-! Row.remove (II)V -/
theorem s64_0 : jE d 64 0 [a0, some (.inl x), a2, a3] st σ v σ' ↔ jE d 64 1 [a0, some (.inl x), a2, a3] (.inl x :: st) σ v σ' := (jE_next (by rw [jst_of (by decide +kernel : jF 64 0 = some (.iload_n 1, 1))]; rfl))
theorem s64_1 : jE d 64 1 [a0, a1, a2, a3] (.inl x :: st) σ v σ' ↔ jE d 64 2 [a0, a1, a2, some (.inl x)] st σ v σ' := (jE_next (by rw [jst_of (by decide +kernel : jF 64 1 = some (.istore_n 3, 1))]; rfl))
theorem s64_2 : jE d 64 2 [a0, a1, a2, some (.inl x)] st σ v σ' ↔ jE d 64 3 [a0, a1, a2, some (.inl x)] (.inl x :: st) σ v σ' := (jE_next (by rw [jst_of (by decide +kernel : jF 64 2 = some (.iload_n 3, 1))]; rfl))
theorem s64_3 : jE d 64 3 [a0, a1, some (.inl x), a3] st σ v σ' ↔ jE d 64 4 [a0, a1, some (.inl x), a3] (.inl x :: st) σ v σ' := (jE_next (by rw [jst_of (by decide +kernel : jF 64 3 = some (.iload_n 2, 1))]; rfl))
theorem s64_4 : jE d 64 4 al st σ v σ' ↔ jE d 64 5 al (.inl 1 :: st) σ v σ' := (jE_next (by rw [jst_of (by decide +kernel : jF 64 4 = some (.iconst 1, 1))]; rfl))
theorem s64_5 : jE d 64 5 al (.inl y :: .inl x :: st) σ v σ' ↔ jE d 64 6 al (.inl (x - y) :: st) σ v σ' := (jE_next (by rw [jst_of (by decide +kernel : jF 64 5 = some (.isub, 1))]; rfl))
theorem s64_6 : jE d 64 6 al (.inl y :: .inl x :: st) σ v σ' ↔ (if y ≤ x then jE d 64 27 al st σ v σ' else jE d 64 9 al st σ v σ') := jg_if_icmp_ge (off := 21) (by decide +kernel) (by decide) rfl rfl
theorem s64_9 : jE d 64 9 [some (.inr (.inr o)), a1, a2, a3] st σ v σ' ↔ jE d 64 10 [some (.inr (.inr o)), a1, a2, a3] (.inr (.inr o) :: st) σ v σ' := (jE_next (by rw [jst_of (by decide +kernel : jF 64 9 = some (.aload_n 0, 1))]; rfl))
theorem s64_10 : jE d 64 10 [a0, a1, a2, some (.inl x)] st σ v σ' ↔ jE d 64 11 [a0, a1, a2, some (.inl x)] (.inl x :: st) σ v σ' := (jE_next (by rw [jst_of (by decide +kernel : jF 64 10 = some (.iload_n 3, 1))]; rfl))
theorem s64_11 : jE d 64 11 [some (.inr (.inr o)), a1, a2, a3] st σ v σ' ↔ jE d 64 12 [some (.inr (.inr o)), a1, a2, a3] (.inr (.inr o) :: st) σ v σ' := (jE_next (by rw [jst_of (by decide +kernel : jF 64 11 = some (.aload_n 0, 1))]; rfl))
theorem s64_12 : jE d 64 12 [a0, a1, a2, some (.inl x)] st σ v σ' ↔ jE d 64 13 [a0, a1, a2, some (.inl x)] (.inl x :: st) σ v σ' := (jE_next (by rw [jst_of (by decide +kernel : jF 64 12 = some (.iload_n 3, 1))]; rfl))
theorem s64_13 : jE d 64 13 al st σ v σ' ↔ jE d 64 14 al (.inl 1 :: st) σ v σ' := (jE_next (by rw [jst_of (by decide +kernel : jF 64 13 = some (.iconst 1, 1))]; rfl))
theorem s64_14 : jE d 64 14 al (.inl y :: .inl x :: st) σ v σ' ↔ jE d 64 15 al (.inl (x + y) :: st) σ v σ' := (jE_next (by rw [jst_of (by decide +kernel : jF 64 14 = some (.iadd, 1))]; rfl))
theorem s64_15 : jE (d + 1) 64 15 al (.inl x :: .inr (.inr (some (6, a))) :: [r0, r1]) σ v σ' ↔ (∃ (v1 : Option jV) (s1 : jS), jE d 59 0 [some (.inr (.inr (some (6, a)))), some (.inl x)] [] σ v1 s1 ∧ jE (d + 1) 64 18 al (v1.toList ++ [r0, r1]) s1 v σ') := jE_call (m' := 59) (as := [.inr (.inr (some (6, a))), .inl x]) (rest := [r0, r1]) (by rw [jst_of (by decide +kernel : jF 64 15 = some (.invokevirtual 15, 3))]; rfl)
theorem s64_18 : jE (d + 1) 64 18 al (.inl y :: .inl x :: .inr (.inr (some (6, a))) :: []) σ v σ' ↔ (∃ (v1 : Option jV) (s1 : jS), jE d 60 0 [some (.inr (.inr (some (6, a)))), some (.inl x), some (.inl y)] [] σ v1 s1 ∧ jE (d + 1) 64 21 al (v1.toList ++ []) s1 v σ') := jE_call (m' := 60) (as := [.inr (.inr (some (6, a))), .inl x, .inl y]) (rest := []) (by rw [jst_of (by decide +kernel : jF 64 18 = some (.invokevirtual 19, 3))]; rfl)
theorem s64_21 : jE d 64 21 [a0, a1, a2, some (.inl x)] st σ v σ' ↔ jE d 64 24 [a0, a1, a2, some (.inl (x + 1))] st σ v σ' := (jE_next (by rw [jst_of (by decide +kernel : jF 64 21 = some (.iinc 3 1, 3))]; rfl))
theorem s64_24 : jE d 64 24 al st σ v σ' ↔ jE d 64 2 al st σ v σ' := (jE_next (by rw [jst_of (by decide +kernel : jF 64 24 = some (.goto (-22), 3))]; rfl))
theorem s64_27 : jE d 64 27 al [] σ v σ' ↔ (v = none ∧ σ' = σ) := jE_ret (by rw [jst_of (by decide +kernel : jF 64 27 = some (.return_, 1))]; rfl)
/-! Row.clear ()V -/
theorem s65_0 : jE d 65 0 [some (.inr (.inr o))] st σ v σ' ↔ jE d 65 1 [some (.inr (.inr o))] (.inr (.inr o) :: st) σ v σ' := (jE_next (by rw [jst_of (by decide +kernel : jF 65 0 = some (.aload_n 0, 1))]; rfl))
theorem s65_1 : jE d 65 1 al (.inr (.inr (some (6, a))) :: st) (n, ([], M)) v σ' ↔ jE d 65 4 al (.inr (.inr (some (12, a))) :: st) (n, ([], M)) v σ' := (jE_next (by rw [jst_of (by decide +kernel : jF 65 1 = some (.getfield 9, 3))]; rfl))
theorem s65_4 : jE d 65 4 al st σ v σ' ↔ jE d 65 5 al (.inl 0 :: st) σ v σ' := (jE_next (by rw [jst_of (by decide +kernel : jF 65 4 = some (.iconst 0, 1))]; rfl))
theorem s65_5 : jE (d + 1) 65 5 al (.inl x :: .inr (.inr o) :: []) σ v σ' ↔ (∃ (v1 : Option jV) (s1 : jS), jE d 196 0 [some (.inr (.inr o)), some (.inl x), none, none] [] σ v1 s1 ∧ jE (d + 1) 65 8 al (v1.toList ++ []) s1 v σ') := jE_call (m' := 196) (as := [.inr (.inr o), .inl x]) (rest := []) (by rw [jst_of (by decide +kernel : jF 65 5 = some (.invokestatic 23, 3))]; rfl)
theorem s65_8 : jE d 65 8 al [] σ v σ' ↔ (v = none ∧ σ' = σ) := jE_ret (by rw [jst_of (by decide +kernel : jF 65 8 = some (.return_, 1))]; rfl)
/-! Row.numberThrough ()V -/
theorem s66_0 : jE d 66 0 al st σ v σ' ↔ jE d 66 1 al (.inl 0 :: st) σ v σ' := (jE_next (by rw [jst_of (by decide +kernel : jF 66 0 = some (.iconst 0, 1))]; rfl))
theorem s66_1 : jE d 66 1 [a0, a1] (.inl x :: st) σ v σ' ↔ jE d 66 2 [a0, some (.inl x)] st σ v σ' := (jE_next (by rw [jst_of (by decide +kernel : jF 66 1 = some (.istore_n 1, 1))]; rfl))
theorem s66_2 : jE d 66 2 [a0, some (.inl x)] st σ v σ' ↔ jE d 66 3 [a0, some (.inl x)] (.inl x :: st) σ v σ' := (jE_next (by rw [jst_of (by decide +kernel : jF 66 2 = some (.iload_n 1, 1))]; rfl))
theorem s66_3 : jE d 66 3 [some (.inr (.inr o)), a1] st σ v σ' ↔ jE d 66 4 [some (.inr (.inr o)), a1] (.inr (.inr o) :: st) σ v σ' := (jE_next (by rw [jst_of (by decide +kernel : jF 66 3 = some (.aload_n 0, 1))]; rfl))
theorem s66_4 : jE d 66 4 al (.inr (.inr (some (6, a))) :: st) (n, ([], M)) v σ' ↔ jE d 66 7 al (.inr (.inr (some (12, a))) :: st) (n, ([], M)) v σ' := (jE_next (by rw [jst_of (by decide +kernel : jF 66 4 = some (.getfield 9, 3))]; rfl))
theorem s66_7 : jE d 66 7 al (.inr (.inr (some (12, a))) :: st) σ v σ' ↔ jE d 66 8 al (.inl (Int32.ofNat (jLen 12 a)) :: st) σ v σ' := (jE_next (by rw [jst_of (by decide +kernel : jF 66 7 = some (.arraylength, 1))]; rfl))
theorem s66_8 : jE d 66 8 al (.inl y :: .inl x :: st) σ v σ' ↔ (if y ≤ x then jE d 66 23 al st σ v σ' else jE d 66 11 al st σ v σ') := jg_if_icmp_ge (off := 15) (by decide +kernel) (by decide) rfl rfl
theorem s66_11 : jE d 66 11 [some (.inr (.inr o)), a1] st σ v σ' ↔ jE d 66 12 [some (.inr (.inr o)), a1] (.inr (.inr o) :: st) σ v σ' := (jE_next (by rw [jst_of (by decide +kernel : jF 66 11 = some (.aload_n 0, 1))]; rfl))
theorem s66_12 : jE d 66 12 [a0, some (.inl x)] st σ v σ' ↔ jE d 66 13 [a0, some (.inl x)] (.inl x :: st) σ v σ' := (jE_next (by rw [jst_of (by decide +kernel : jF 66 12 = some (.iload_n 1, 1))]; rfl))
theorem s66_13 : jE d 66 13 [a0, some (.inl x)] st σ v σ' ↔ jE d 66 14 [a0, some (.inl x)] (.inl x :: st) σ v σ' := (jE_next (by rw [jst_of (by decide +kernel : jF 66 13 = some (.iload_n 1, 1))]; rfl))
theorem s66_14 : jE (d + 1) 66 14 al (.inl y :: .inl x :: .inr (.inr (some (6, a))) :: []) σ v σ' ↔ (∃ (v1 : Option jV) (s1 : jS), jE d 60 0 [some (.inr (.inr (some (6, a)))), some (.inl x), some (.inl y)] [] σ v1 s1 ∧ jE (d + 1) 66 17 al (v1.toList ++ []) s1 v σ') := jE_call (m' := 60) (as := [.inr (.inr (some (6, a))), .inl x, .inl y]) (rest := []) (by rw [jst_of (by decide +kernel : jF 66 14 = some (.invokevirtual 19, 3))]; rfl)
theorem s66_17 : jE d 66 17 [a0, some (.inl x)] st σ v σ' ↔ jE d 66 20 [a0, some (.inl (x + 1))] st σ v σ' := (jE_next (by rw [jst_of (by decide +kernel : jF 66 17 = some (.iinc 1 1, 3))]; rfl))
theorem s66_20 : jE d 66 20 al st σ v σ' ↔ jE d 66 2 al st σ v σ' := (jE_next (by rw [jst_of (by decide +kernel : jF 66 20 = some (.goto (-18), 3))]; rfl))
theorem s66_23 : jE d 66 23 al [] σ v σ' ↔ (v = none ∧ σ' = σ) := jE_ret (by rw [jst_of (by decide +kernel : jF 66 23 = some (.return_, 1))]; rfl)
/-! Row.copy (LPlayedLaws$Row;)V -/
theorem s67_0 : jE d 67 0 [a0, some (.inr (.inr o))] st σ v σ' ↔ jE d 67 1 [a0, some (.inr (.inr o))] (.inr (.inr o) :: st) σ v σ' := (jE_next (by rw [jst_of (by decide +kernel : jF 67 0 = some (.aload_n 1, 1))]; rfl))
theorem s67_1 : jE d 67 1 al (.inr (.inr (some (6, a))) :: st) (n, ([], M)) v σ' ↔ jE d 67 4 al (.inr (.inr (some (12, a))) :: st) (n, ([], M)) v σ' := (jE_next (by rw [jst_of (by decide +kernel : jF 67 1 = some (.getfield 9, 3))]; rfl))
theorem s67_4 : jE d 67 4 al st σ v σ' ↔ jE d 67 5 al (.inl 0 :: st) σ v σ' := (jE_next (by rw [jst_of (by decide +kernel : jF 67 4 = some (.iconst 0, 1))]; rfl))
theorem s67_5 : jE d 67 5 [some (.inr (.inr o)), a1] st σ v σ' ↔ jE d 67 6 [some (.inr (.inr o)), a1] (.inr (.inr o) :: st) σ v σ' := (jE_next (by rw [jst_of (by decide +kernel : jF 67 5 = some (.aload_n 0, 1))]; rfl))
theorem s67_6 : jE d 67 6 al (.inr (.inr (some (6, a))) :: st) (n, ([], M)) v σ' ↔ jE d 67 9 al (.inr (.inr (some (12, a))) :: st) (n, ([], M)) v σ' := (jE_next (by rw [jst_of (by decide +kernel : jF 67 6 = some (.getfield 9, 3))]; rfl))
theorem s67_9 : jE d 67 9 al st σ v σ' ↔ jE d 67 10 al (.inl 0 :: st) σ v σ' := (jE_next (by rw [jst_of (by decide +kernel : jF 67 9 = some (.iconst 0, 1))]; rfl))
theorem s67_10 : jE d 67 10 [some (.inr (.inr o)), a1] st σ v σ' ↔ jE d 67 11 [some (.inr (.inr o)), a1] (.inr (.inr o) :: st) σ v σ' := (jE_next (by rw [jst_of (by decide +kernel : jF 67 10 = some (.aload_n 0, 1))]; rfl))
theorem s67_11 : jE d 67 11 al (.inr (.inr (some (6, a))) :: st) (n, ([], M)) v σ' ↔ jE d 67 14 al (.inr (.inr (some (12, a))) :: st) (n, ([], M)) v σ' := (jE_next (by rw [jst_of (by decide +kernel : jF 67 11 = some (.getfield 9, 3))]; rfl))
theorem s67_14 : jE d 67 14 al (.inr (.inr (some (12, a))) :: st) σ v σ' ↔ jE d 67 15 al (.inl (Int32.ofNat (jLen 12 a)) :: st) σ v σ' := (jE_next (by rw [jst_of (by decide +kernel : jF 67 14 = some (.arraylength, 1))]; rfl))
theorem s67_15 : jE d 67 15 [a0, some (.inr (.inr o))] st σ v σ' ↔ jE d 67 16 [a0, some (.inr (.inr o))] (.inr (.inr o) :: st) σ v σ' := (jE_next (by rw [jst_of (by decide +kernel : jF 67 15 = some (.aload_n 1, 1))]; rfl))
theorem s67_16 : jE d 67 16 al (.inr (.inr (some (6, a))) :: st) (n, ([], M)) v σ' ↔ jE d 67 19 al (.inr (.inr (some (12, a))) :: st) (n, ([], M)) v σ' := (jE_next (by rw [jst_of (by decide +kernel : jF 67 16 = some (.getfield 9, 3))]; rfl))
theorem s67_19 : jE d 67 19 al (.inr (.inr (some (12, a))) :: st) σ v σ' ↔ jE d 67 20 al (.inl (Int32.ofNat (jLen 12 a)) :: st) σ v σ' := (jE_next (by rw [jst_of (by decide +kernel : jF 67 19 = some (.arraylength, 1))]; rfl))
theorem s67_20 : jE d 67 20 al (.inl y :: .inl x :: [r0, r1, r2, r3]) σ v σ' ↔ jE d 67 23 al (.inl (if y < x then y else x) :: [r0, r1, r2, r3]) σ v σ' := (jE_next (by rw [jst_of (by decide +kernel : jF 67 20 = some (.invokestatic 29, 3))]; rfl))
theorem s67_23 : jE d 67 23 al (.inl z :: .inl y :: .inr (.inr (some (12, b))) :: .inl x :: .inr (.inr (some (12, a))) :: []) (n, (P, M)) v σ' ↔ ((0 ≤ x ∧ 0 ≤ y ∧ 0 ≤ z ∧ x.toNatClampNeg + z.toNatClampNeg ≤ jLen 12 a ∧ y.toNatClampNeg + z.toNatClampNeg ≤ jLen 12 b) ∧ jE d 67 26 al [] (n, (P, jCp M a b x.toNatClampNeg y.toNatClampNeg z.toNatClampNeg)) v σ') := jg_copy (i := 35) (by decide +kernel) (by decide +kernel)
theorem s67_26 : jE d 67 26 al [] σ v σ' ↔ (v = none ∧ σ' = σ) := jE_ret (by rw [jst_of (by decide +kernel : jF 67 26 = some (.return_, 1))]; rfl)
end STEPS
end
