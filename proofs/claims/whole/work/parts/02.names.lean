/-! ===== BEGIN words of one list among another's, by their places ===== -/
theorem goodIn_r {big : List Cond} (ws : List Cond) (ps : List Nat) (hp : ws = ps.filterMap (fun i => big[i]?)) (h : ws.all goodWord = true) : GoodIn big ws := by
  intro w hw
  have h1 := List.all_eq_true.mp h w hw
  rw [hp] at hw
  obtain ⟨i, -, hi⟩ := List.mem_filterMap.mp hw
  have hm : w ∈ big := by first | exact List.mem_of_getElem? hi | exact List.getElem?_mem hi
  exact ⟨hm, good_of_word h1⟩
theorem goodIn_app {big a b : List Cond} (ha : GoodIn big a) (hb : GoodIn big b) : GoodIn big (a ++ b) := fun w h => (List.mem_append.mp h).elim (ha w) (hb w)
theorem goodIn_ca {big a b : List Cond} {c : Cond} (ha : GoodIn big (c :: a)) (hb : GoodIn big b) : GoodIn big (c :: (a ++ b)) := fun w h => (List.mem_cons.mp h).elim (fun e => ha w (List.mem_cons.mpr (Or.inl e))) (fun h => (List.mem_append.mp h).elim (fun h => ha w (List.mem_cons.mpr (Or.inr h))) (hb w))
theorem goodIn_sub {big ws : List Cond} (hm : ∀ w ∈ ws, w ∈ big) (h : ws.all goodWord = true) : GoodIn big ws := fun w hw => ⟨hm w hw, good_of_word (List.all_eq_true.mp h w hw)⟩
/-! ===== END ===== -/

/-! ===== BEGIN printed: names, fields, word lists, decode rows ===== -/
def RX0 : String := "PlayedLaws$Chances"
def TX0 : u_T := fun k => match k with
  | 0 => ("PlayedLaws$Chances", "trial", "LPlayedLaws$House;", true)
  | 1 => ("PlayedLaws$Chances", "night", "LPlayedLaws$Night;", true)
  | 2 => ("PlayedLaws$Chances", "above", "I", false)
  | _ => ("PlayedLaws$Chances", "below", "I", false)
def tyX0 : Nat → FieldType := fun k => match k with
  | 0 => .object "PlayedLaws$House"
  | 1 => .object "PlayedLaws$Night"
  | 2 => .int
  | _ => .int
abbrev wsX00 : List Cond := u_ws RX0 TX0 4
theorem nmX0 : ∀ a, a < 4 → ∀ b, b < 4 → a ≠ b → (TX0 a).2.1 ≠ (TX0 b).2.1 := by decide +kernel
theorem tyX0_ok : ∀ k, k < 4 → parseFieldDescriptor (TX0 k).2.2.1 = some (tyX0 k) := by decide +kernel
abbrev cX0_init : ByteArray := prog_2_method_1_code
def yX0_init : MethodName := ⟨RX0, "<init>", "()V"⟩
abbrev cX0_weigh : ByteArray := prog_2_method_2_code
def yX0_weigh : MethodName := ⟨RX0, "weigh", "(LPlayedLaws$House;I)V"⟩
abbrev cX0_weightOf : ByteArray := prog_2_method_3_code
def yX0_weightOf : MethodName := ⟨RX0, "weightOf", "(LPlayedLaws$House;II)I"⟩
abbrev cX0_canCough : ByteArray := prog_2_method_4_code
def yX0_canCough : MethodName := ⟨RX0, "canCough", "(LPlayedLaws$House;I)Z"⟩
abbrev cX0_commonDivisor : ByteArray := prog_2_method_5_code
def yX0_commonDivisor : MethodName := ⟨RX0, "commonDivisor", "(II)I"⟩
abbrev cX0_playSeason : ByteArray := prog_2_method_6_code
def yX0_playSeason : MethodName := ⟨RX0, "playSeason", "(LPlayedLaws$House;II)V"⟩
abbrev cX0_takeDraw : ByteArray := prog_2_method_7_code
def yX0_takeDraw : MethodName := ⟨RX0, "takeDraw", "(I)V"⟩
def RX1 : String := "PlayedLaws$House"
def TX1 : u_T := fun k => match k with
  | 0 => ("PlayedLaws$House", "sceneKinds", "LPlayedLaws$Row;", true)
  | 1 => ("PlayedLaws$House", "minutes", "LPlayedLaws$Row;", true)
  | 2 => ("PlayedLaws$House", "clauses", "LPlayedLaws$Row;", true)
  | 3 => ("PlayedLaws$House", "shown", "LPlayedLaws$Row;", true)
  | 4 => ("PlayedLaws$House", "bill", "LPlayedLaws$Row;", true)
  | 5 => ("PlayedLaws$House", "seatKinds", "LPlayedLaws$Row;", true)
  | 6 => ("PlayedLaws$House", "tastes", "LPlayedLaws$Row;", true)
  | 7 => ("PlayedLaws$House", "patiences", "LPlayedLaws$Row;", true)
  | 8 => ("PlayedLaws$House", "bound", "LPlayedLaws$Row;", true)
  | 9 => ("PlayedLaws$House", "line", "LPlayedLaws$Row;", true)
  | 10 => ("PlayedLaws$House", "scenes", "I", false)
  | 11 => ("PlayedLaws$House", "seats", "I", false)
  | 12 => ("PlayedLaws$House", "billed", "I", false)
  | 13 => ("PlayedLaws$House", "till", "I", false)
  | 14 => ("PlayedLaws$House", "nights", "I", false)
  | _ => ("PlayedLaws$House", "passed", "I", false)
def tyX1 : Nat → FieldType := fun k => match k with
  | 0 => .object "PlayedLaws$Row"
  | 1 => .object "PlayedLaws$Row"
  | 2 => .object "PlayedLaws$Row"
  | 3 => .object "PlayedLaws$Row"
  | 4 => .object "PlayedLaws$Row"
  | 5 => .object "PlayedLaws$Row"
  | 6 => .object "PlayedLaws$Row"
  | 7 => .object "PlayedLaws$Row"
  | 8 => .object "PlayedLaws$Row"
  | 9 => .object "PlayedLaws$Row"
  | 10 => .int
  | 11 => .int
  | 12 => .int
  | 13 => .int
  | 14 => .int
  | _ => .int
abbrev wsX10 : List Cond := u_ws RX1 TX1 16
theorem nmX1 : ∀ a, a < 16 → ∀ b, b < 16 → a ≠ b → (TX1 a).2.1 ≠ (TX1 b).2.1 := by decide +kernel
theorem tyX1_ok : ∀ k, k < 16 → parseFieldDescriptor (TX1 k).2.2.1 = some (tyX1 k) := by decide +kernel
abbrev cX1_init : ByteArray := prog_3_method_1_code
def yX1_init : MethodName := ⟨RX1, "<init>", "()V"⟩
abbrev cX1_empty : ByteArray := prog_3_method_2_code
def yX1_empty : MethodName := ⟨RX1, "empty", "()V"⟩
abbrev cX1_copy : ByteArray := prog_3_method_3_code
def yX1_copy : MethodName := ⟨RX1, "copy", "(LPlayedLaws$House;)V"⟩
abbrev cX1_tellScene : ByteArray := prog_3_method_4_code
def yX1_tellScene : MethodName := ⟨RX1, "tellScene", "(III)Z"⟩
abbrev cX1_tellSeat : ByteArray := prog_3_method_5_code
def yX1_tellSeat : MethodName := ⟨RX1, "tellSeat", "(III)Z"⟩
abbrev cX1_isScene : ByteArray := prog_3_method_6_code
def yX1_isScene : MethodName := ⟨RX1, "isScene", "(I)Z"⟩
abbrev cX1_isSeat : ByteArray := prog_3_method_7_code
def yX1_isSeat : MethodName := ⟨RX1, "isSeat", "(I)Z"⟩
abbrev cX1_placeOnBill : ByteArray := prog_3_method_8_code
def yX1_placeOnBill : MethodName := ⟨RX1, "placeOnBill", "(I)I"⟩
abbrev cX1_placeInLine : ByteArray := prog_3_method_9_code
def yX1_placeInLine : MethodName := ⟨RX1, "placeInLine", "(I)I"⟩
abbrev cX1_isBilled : ByteArray := prog_3_method_10_code
def yX1_isBilled : MethodName := ⟨RX1, "isBilled", "(I)Z"⟩
abbrev cX1_mount : ByteArray := prog_3_method_11_code
def yX1_mount : MethodName := ⟨RX1, "mount", "(II)V"⟩
abbrev cX1_strike : ByteArray := prog_3_method_12_code
def yX1_strike : MethodName := ⟨RX1, "strike", "(I)V"⟩
abbrev cX1_trade : ByteArray := prog_3_method_13_code
def yX1_trade : MethodName := ⟨RX1, "trade", "(II)V"⟩
abbrev cX1_canEngage : ByteArray := prog_3_method_14_code
def yX1_canEngage : MethodName := ⟨RX1, "canEngage", "(I)Z"⟩
abbrev cX1_engage : ByteArray := prog_3_method_15_code
def yX1_engage : MethodName := ⟨RX1, "engage", "(I)V"⟩
abbrev cX1_claqueurs : ByteArray := prog_3_method_16_code
def yX1_claqueurs : MethodName := ⟨RX1, "claqueurs", "()I"⟩
abbrev cX1_bindings : ByteArray := prog_3_method_17_code
def yX1_bindings : MethodName := ⟨RX1, "bindings", "()I"⟩
abbrev cX1_clauseBit : ByteArray := prog_3_method_18_code
def yX1_clauseBit : MethodName := ⟨RX1, "clauseBit", "(I)I"⟩
abbrev cX1_canOpen : ByteArray := prog_3_method_19_code
def yX1_canOpen : MethodName := ⟨RX1, "canOpen", "()Z"⟩
abbrev cX1_settle : ByteArray := prog_3_method_20_code
def yX1_settle : MethodName := ⟨RX1, "settle", "(LPlayedLaws$Night;)V"⟩
abbrev cX1_tire : ByteArray := prog_3_method_21_code
def yX1_tire : MethodName := ⟨RX1, "tire", "()V"⟩
abbrev cX1_bindAll : ByteArray := prog_3_method_22_code
def yX1_bindAll : MethodName := ⟨RX1, "bindAll", "(LPlayedLaws$Night;)V"⟩
abbrev cX1_bind : ByteArray := prog_3_method_23_code
def yX1_bind : MethodName := ⟨RX1, "bind", "(III)V"⟩
def RX2 : String := "PlayedLaws$Houses"
def TX2 : u_T := fun k => match k with
  | 0 => ("PlayedLaws$Houses", "houses", "[LPlayedLaws$House;", true)
  | 1 => ("PlayedLaws$Houses", "top", "I", false)
  | _ => ("PlayedLaws$Houses", "held", "I", false)
def tyX2 : Nat → FieldType := fun k => match k with
  | 0 => .array (.object "PlayedLaws$House")
  | 1 => .int
  | _ => .int
abbrev wsX20 : List Cond := u_ws RX2 TX2 3
theorem nmX2 : ∀ a, a < 3 → ∀ b, b < 3 → a ≠ b → (TX2 a).2.1 ≠ (TX2 b).2.1 := by decide +kernel
theorem tyX2_ok : ∀ k, k < 3 → parseFieldDescriptor (TX2 k).2.2.1 = some (tyX2 k) := by decide +kernel
abbrev cX2_init : ByteArray := prog_4_method_1_code
def yX2_init : MethodName := ⟨RX2, "<init>", "(I)V"⟩
abbrev cX2_push : ByteArray := prog_4_method_2_code
def yX2_push : MethodName := ⟨RX2, "push", "(LPlayedLaws$House;)V"⟩
abbrev cX2_pop : ByteArray := prog_4_method_3_code
def yX2_pop : MethodName := ⟨RX2, "pop", "(LPlayedLaws$House;)V"⟩
def RX3 : String := "PlayedLaws$Lineup"
def TX3 : u_T := fun k => match k with
  | 0 => ("PlayedLaws$Lineup", "trial", "LPlayedLaws$House;", true)
  | 1 => ("PlayedLaws$Lineup", "night", "LPlayedLaws$Night;", true)
  | 2 => ("PlayedLaws$Lineup", "row", "LPlayedLaws$Row;", true)
  | 3 => ("PlayedLaws$Lineup", "staying", "I", false)
  | _ => ("PlayedLaws$Lineup", "foundStamp", "I", false)
def tyX3 : Nat → FieldType := fun k => match k with
  | 0 => .object "PlayedLaws$House"
  | 1 => .object "PlayedLaws$Night"
  | 2 => .object "PlayedLaws$Row"
  | 3 => .int
  | _ => .int
abbrev wsX30 : List Cond := u_ws RX3 TX3 5
theorem nmX3 : ∀ a, a < 5 → ∀ b, b < 5 → a ≠ b → (TX3 a).2.1 ≠ (TX3 b).2.1 := by decide +kernel
theorem tyX3_ok : ∀ k, k < 5 → parseFieldDescriptor (TX3 k).2.2.1 = some (tyX3 k) := by decide +kernel
abbrev cX3_init : ByteArray := prog_5_method_1_code
def yX3_init : MethodName := ⟨RX3, "<init>", "()V"⟩
abbrev cX3_find : ByteArray := prog_5_method_2_code
def yX3_find : MethodName := ⟨RX3, "find", "(LPlayedLaws$House;I)V"⟩
abbrev cX3_patientAlone : ByteArray := prog_5_method_3_code
def yX3_patientAlone : MethodName := ⟨RX3, "patientAlone", "(LPlayedLaws$House;)I"⟩
abbrev cX3_tryLine : ByteArray := prog_5_method_4_code
def yX3_tryLine : MethodName := ⟨RX3, "tryLine", "()V"⟩
abbrev cX3_nextLine : ByteArray := prog_5_method_5_code
def yX3_nextLine : MethodName := ⟨RX3, "nextLine", "()Z"⟩
def RX4 : String := "PlayedLaws$Night"
def TX4 : u_T := fun k => match k with
  | 0 => ("PlayedLaws$Night", "boredom", "LPlayedLaws$Row;", true)
  | 1 => ("PlayedLaws$Night", "left", "LPlayedLaws$Row;", true)
  | 2 => ("PlayedLaws$Night", "asleep", "LPlayedLaws$Row;", true)
  | 3 => ("PlayedLaws$Night", "seen", "LPlayedLaws$Row;", true)
  | 4 => ("PlayedLaws$Night", "emptyPlaces", "LPlayedLaws$Row;", true)
  | _ => ("PlayedLaws$Night", "gone", "I", false)
def tyX4 : Nat → FieldType := fun k => match k with
  | 0 => .object "PlayedLaws$Row"
  | 1 => .object "PlayedLaws$Row"
  | 2 => .object "PlayedLaws$Row"
  | 3 => .object "PlayedLaws$Row"
  | 4 => .object "PlayedLaws$Row"
  | _ => .int
abbrev wsX40 : List Cond := u_ws RX4 TX4 6
theorem nmX4 : ∀ a, a < 6 → ∀ b, b < 6 → a ≠ b → (TX4 a).2.1 ≠ (TX4 b).2.1 := by decide +kernel
theorem tyX4_ok : ∀ k, k < 6 → parseFieldDescriptor (TX4 k).2.2.1 = some (tyX4 k) := by decide +kernel
abbrev cX4_init : ByteArray := prog_6_method_1_code
def yX4_init : MethodName := ⟨RX4, "<init>", "()V"⟩
abbrev cX4_begin : ByteArray := prog_6_method_2_code
def yX4_begin : MethodName := ⟨RX4, "begin", "()V"⟩
abbrev cX4_copy : ByteArray := prog_6_method_3_code
def yX4_copy : MethodName := ⟨RX4, "copy", "(LPlayedLaws$Night;)V"⟩
abbrev cX4_unfold : ByteArray := prog_6_method_4_code
def yX4_unfold : MethodName := ⟨RX4, "unfold", "(LPlayedLaws$House;I)V"⟩
abbrev cX4_stage : ByteArray := prog_6_method_5_code
def yX4_stage : MethodName := ⟨RX4, "stage", "(LPlayedLaws$House;II)V"⟩
abbrev cX4_carries : ByteArray := prog_6_method_6_code
def yX4_carries : MethodName := ⟨RX4, "carries", "(LPlayedLaws$House;)Z"⟩
abbrev cX4_watch : ByteArray := prog_6_method_7_code
def yX4_watch : MethodName := ⟨RX4, "watch", "(LPlayedLaws$House;I)V"⟩
abbrev cX4_leave : ByteArray := prog_6_method_8_code
def yX4_leave : MethodName := ⟨RX4, "leave", "(LPlayedLaws$House;II)V"⟩
abbrev cX4_bore : ByteArray := prog_6_method_9_code
def yX4_bore : MethodName := ⟨RX4, "bore", "(LPlayedLaws$House;II)V"⟩
abbrev cX4_isDrivenOut : ByteArray := prog_6_method_10_code
def yX4_isDrivenOut : MethodName := ⟨RX4, "isDrivenOut", "(LPlayedLaws$House;I)Z"⟩
def RX5 : String := "PlayedLaws$Outlook"
def TX5 : u_T := fun k => match k with
  | 0 => ("PlayedLaws$Outlook", "trial", "LPlayedLaws$House;", true)
  | 1 => ("PlayedLaws$Outlook", "night", "LPlayedLaws$Night;", true)
  | 2 => ("PlayedLaws$Outlook", "addition", "I", false)
  | _ => ("PlayedLaws$Outlook", "binding", "I", false)
def tyX5 : Nat → FieldType := fun k => match k with
  | 0 => .object "PlayedLaws$House"
  | 1 => .object "PlayedLaws$Night"
  | 2 => .int
  | _ => .int
abbrev wsX50 : List Cond := u_ws RX5 TX5 4
theorem nmX5 : ∀ a, a < 4 → ∀ b, b < 4 → a ≠ b → (TX5 a).2.1 ≠ (TX5 b).2.1 := by decide +kernel
theorem tyX5_ok : ∀ k, k < 4 → parseFieldDescriptor (TX5 k).2.2.1 = some (tyX5 k) := by decide +kernel
abbrev cX5_init : ByteArray := prog_7_method_1_code
def yX5_init : MethodName := ⟨RX5, "<init>", "()V"⟩
abbrev cX5_fewestClaques : ByteArray := prog_7_method_2_code
def yX5_fewestClaques : MethodName := ⟨RX5, "fewestClaques", "(LPlayedLaws$House;)I"⟩
abbrev cX5_fatalCut : ByteArray := prog_7_method_3_code
def yX5_fatalCut : MethodName := ⟨RX5, "fatalCut", "(LPlayedLaws$House;)I"⟩
abbrev cX5_nightsAhead : ByteArray := prog_7_method_4_code
def yX5_nightsAhead : MethodName := ⟨RX5, "nightsAhead", "(LPlayedLaws$House;)I"⟩
abbrev cX5_findAddition : ByteArray := prog_7_method_5_code
def yX5_findAddition : MethodName := ⟨RX5, "findAddition", "(LPlayedLaws$House;)V"⟩
abbrev cX5_tryAddition : ByteArray := prog_7_method_6_code
def yX5_tryAddition : MethodName := ⟨RX5, "tryAddition", "(LPlayedLaws$House;II)V"⟩
abbrev cX5_fittingPatiences : ByteArray := prog_7_method_7_code
def yX5_fittingPatiences : MethodName := ⟨RX5, "fittingPatiences", "(LPlayedLaws$House;LPlayedLaws$Sights;I)I"⟩
abbrev cX5_fittingTastes : ByteArray := prog_7_method_8_code
def yX5_fittingTastes : MethodName := ⟨RX5, "fittingTastes", "(LPlayedLaws$House;LPlayedLaws$Sights;I)I"⟩
abbrev cX5_trialAgrees : ByteArray := prog_7_method_9_code
def yX5_trialAgrees : MethodName := ⟨RX5, "trialAgrees", "(LPlayedLaws$Sights;I)Z"⟩
abbrev cX5_trialPasses : ByteArray := prog_7_method_10_code
def yX5_trialPasses : MethodName := ⟨RX5, "trialPasses", "()Z"⟩
def RX6 : String := "PlayedLaws$Row"
def TX6 : u_T := fun k => match k with
  | _ => ("PlayedLaws$Row", "cells", "[I", true)
def tyX6 : Nat → FieldType := fun k => match k with
  | _ => .array .int
abbrev wsX60 : List Cond := u_ws RX6 TX6 1
theorem nmX6 : ∀ a, a < 1 → ∀ b, b < 1 → a ≠ b → (TX6 a).2.1 ≠ (TX6 b).2.1 := by decide +kernel
theorem tyX6_ok : ∀ k, k < 1 → parseFieldDescriptor (TX6 k).2.2.1 = some (tyX6 k) := by decide +kernel
abbrev cX6_init : ByteArray := prog_8_method_1_code
def yX6_init : MethodName := ⟨RX6, "<init>", "(I)V"⟩
abbrev cX6_at : ByteArray := prog_8_method_2_code
def yX6_at : MethodName := ⟨RX6, "at", "(I)I"⟩
abbrev cX6_put : ByteArray := prog_8_method_3_code
def yX6_put : MethodName := ⟨RX6, "put", "(II)V"⟩
abbrev cX6_placeOf : ByteArray := prog_8_method_4_code
def yX6_placeOf : MethodName := ⟨RX6, "placeOf", "(II)I"⟩
abbrev cX6_trade : ByteArray := prog_8_method_5_code
def yX6_trade : MethodName := ⟨RX6, "trade", "(II)V"⟩
abbrev cX6_insert : ByteArray := prog_8_method_6_code
def yX6_insert : MethodName := ⟨RX6, "insert", "(III)V"⟩
abbrev cX6_remove : ByteArray := prog_8_method_7_code
def yX6_remove : MethodName := ⟨RX6, "remove", "(II)V"⟩
abbrev cX6_clear : ByteArray := prog_8_method_8_code
def yX6_clear : MethodName := ⟨RX6, "clear", "()V"⟩
abbrev cX6_numberThrough : ByteArray := prog_8_method_9_code
def yX6_numberThrough : MethodName := ⟨RX6, "numberThrough", "()V"⟩
abbrev cX6_copy : ByteArray := prog_8_method_10_code
def yX6_copy : MethodName := ⟨RX6, "copy", "(LPlayedLaws$Row;)V"⟩
def RX7 : String := "PlayedLaws$Shortest"
def TX7 : u_T := fun k => match k with
  | 0 => ("PlayedLaws$Shortest", "trial", "LPlayedLaws$House;", true)
  | 1 => ("PlayedLaws$Shortest", "evenings", "[LPlayedLaws$Night;", true)
  | 2 => ("PlayedLaws$Shortest", "row", "LPlayedLaws$Row;", true)
  | 3 => ("PlayedLaws$Shortest", "length", "I", false)
  | 4 => ("PlayedLaws$Shortest", "minutes", "I", false)
  | 5 => ("PlayedLaws$Shortest", "foundSet", "I", false)
  | _ => ("PlayedLaws$Shortest", "foundStamp", "I", false)
def tyX7 : Nat → FieldType := fun k => match k with
  | 0 => .object "PlayedLaws$House"
  | 1 => .array (.object "PlayedLaws$Night")
  | 2 => .object "PlayedLaws$Row"
  | 3 => .int
  | 4 => .int
  | 5 => .int
  | _ => .int
abbrev wsX70 : List Cond := u_ws RX7 TX7 7
theorem nmX7 : ∀ a, a < 7 → ∀ b, b < 7 → a ≠ b → (TX7 a).2.1 ≠ (TX7 b).2.1 := by decide +kernel
theorem tyX7_ok : ∀ k, k < 7 → parseFieldDescriptor (TX7 k).2.2.1 = some (tyX7 k) := by decide +kernel
abbrev cX7_init : ByteArray := prog_9_method_1_code
def yX7_init : MethodName := ⟨RX7, "<init>", "()V"⟩
abbrev cX7_find : ByteArray := prog_9_method_2_code
def yX7_find : MethodName := ⟨RX7, "find", "(LPlayedLaws$House;II)V"⟩
abbrev cX7_allBindable : ByteArray := prog_9_method_3_code
def yX7_allBindable : MethodName := ⟨RX7, "allBindable", "()I"⟩
abbrev cX7_extend : ByteArray := prog_9_method_4_code
def yX7_extend : MethodName := ⟨RX7, "extend", "(LPlayedLaws$Shortest;IIII)V"⟩
abbrev cX7_endures : ByteArray := prog_9_method_5_code
def yX7_endures : MethodName := ⟨RX7, "endures", "(II)Z"⟩
abbrev cX7_evening : ByteArray := prog_9_method_6_code
def yX7_evening : MethodName := ⟨RX7, "evening", "(I)LPlayedLaws$Night;"⟩
abbrev cX7_bindable : ByteArray := prog_9_method_7_code
def yX7_bindable : MethodName := ⟨RX7, "bindable", "(I)I"⟩
abbrev cX7_note : ByteArray := prog_9_method_8_code
def yX7_note : MethodName := ⟨RX7, "note", "(II)V"⟩
def RX8 : String := "PlayedLaws$Sights"
def TX8 : u_T := fun k => match k with
  | 0 => ("PlayedLaws$Sights", "seats", "LPlayedLaws$Row;", true)
  | 1 => ("PlayedLaws$Sights", "behind", "LPlayedLaws$Row;", true)
  | _ => ("PlayedLaws$Sights", "noted", "I", false)
def tyX8 : Nat → FieldType := fun k => match k with
  | 0 => .object "PlayedLaws$Row"
  | 1 => .object "PlayedLaws$Row"
  | _ => .int
abbrev wsX80 : List Cond := u_ws RX8 TX8 3
theorem nmX8 : ∀ a, a < 3 → ∀ b, b < 3 → a ≠ b → (TX8 a).2.1 ≠ (TX8 b).2.1 := by decide +kernel
theorem tyX8_ok : ∀ k, k < 3 → parseFieldDescriptor (TX8 k).2.2.1 = some (tyX8 k) := by decide +kernel
abbrev cX8_init : ByteArray := prog_10_method_1_code
def yX8_init : MethodName := ⟨RX8, "<init>", "()V"⟩
abbrev cX8_note : ByteArray := prog_10_method_2_code
def yX8_note : MethodName := ⟨RX8, "note", "(II)Z"⟩
abbrev cX8_agree : ByteArray := prog_10_method_3_code
def yX8_agree : MethodName := ⟨RX8, "agree", "(II)Z"⟩
def RX9 : String := "PlayedLaws$Text"
def TX9 : u_T := fun k => match k with
  | 0 => ("PlayedLaws$Text", "letters", "LPlayedLaws$Row;", true)
  | 1 => ("PlayedLaws$Text", "told", "LPlayedLaws$House;", true)
  | 2 => ("PlayedLaws$Text", "length", "I", false)
  | _ => ("PlayedLaws$Text", "spot", "I", false)
def tyX9 : Nat → FieldType := fun k => match k with
  | 0 => .object "PlayedLaws$Row"
  | 1 => .object "PlayedLaws$House"
  | 2 => .int
  | _ => .int
abbrev wsX90 : List Cond := u_ws RX9 TX9 4
theorem nmX9 : ∀ a, a < 4 → ∀ b, b < 4 → a ≠ b → (TX9 a).2.1 ≠ (TX9 b).2.1 := by decide +kernel
theorem tyX9_ok : ∀ k, k < 4 → parseFieldDescriptor (TX9 k).2.2.1 = some (tyX9 k) := by decide +kernel
abbrev cX9_init : ByteArray := prog_11_method_1_code
def yX9_init : MethodName := ⟨RX9, "<init>", "()V"⟩
abbrev cX9_append : ByteArray := prog_11_method_2_code
def yX9_append : MethodName := ⟨RX9, "append", "(I)Z"⟩
abbrev cX9_read : ByteArray := prog_11_method_3_code
def yX9_read : MethodName := ⟨RX9, "read", "()I"⟩
abbrev cX9_readItem : ByteArray := prog_11_method_4_code
def yX9_readItem : MethodName := ⟨RX9, "readItem", "()Z"⟩
abbrev cX9_readScene : ByteArray := prog_11_method_5_code
def yX9_readScene : MethodName := ⟨RX9, "readScene", "()Z"⟩
abbrev cX9_readSeat : ByteArray := prog_11_method_6_code
def yX9_readSeat : MethodName := ⟨RX9, "readSeat", "()Z"⟩
abbrev cX9_readBill : ByteArray := prog_11_method_7_code
def yX9_readBill : MethodName := ⟨RX9, "readBill", "()Z"⟩
abbrev cX9_readTill : ByteArray := prog_11_method_8_code
def yX9_readTill : MethodName := ⟨RX9, "readTill", "()Z"⟩
abbrev cX9_number : ByteArray := prog_11_method_9_code
def yX9_number : MethodName := ⟨RX9, "number", "(III)I"⟩
abbrev cX9_next : ByteArray := prog_11_method_10_code
def yX9_next : MethodName := ⟨RX9, "next", "()I"⟩
abbrev cX9_figure : ByteArray := prog_11_method_11_code
def yX9_figure : MethodName := ⟨RX9, "figure", "(I)I"⟩
def RX10 : String := "PlayedLaws"
def TX10 : u_T := fun k => match k with
  | 0 => ("PlayedLaws", "text", "LPlayedLaws$Text;", true)
  | 1 => ("PlayedLaws", "house", "LPlayedLaws$House;", true)
  | 2 => ("PlayedLaws", "past", "LPlayedLaws$Houses;", true)
  | 3 => ("PlayedLaws", "kept", "LPlayedLaws$Houses;", true)
  | 4 => ("PlayedLaws", "sights", "LPlayedLaws$Sights;", true)
  | 5 => ("PlayedLaws", "night", "LPlayedLaws$Night;", true)
  | 6 => ("PlayedLaws", "shortest", "LPlayedLaws$Shortest;", true)
  | 7 => ("PlayedLaws", "lineup", "LPlayedLaws$Lineup;", true)
  | 8 => ("PlayedLaws", "outlook", "LPlayedLaws$Outlook;", true)
  | 9 => ("PlayedLaws", "chances", "LPlayedLaws$Chances;", true)
  | _ => ("PlayedLaws", "stamp", "I", false)
def tyX10 : Nat → FieldType := fun k => match k with
  | 0 => .object "PlayedLaws$Text"
  | 1 => .object "PlayedLaws$House"
  | 2 => .object "PlayedLaws$Houses"
  | 3 => .object "PlayedLaws$Houses"
  | 4 => .object "PlayedLaws$Sights"
  | 5 => .object "PlayedLaws$Night"
  | 6 => .object "PlayedLaws$Shortest"
  | 7 => .object "PlayedLaws$Lineup"
  | 8 => .object "PlayedLaws$Outlook"
  | 9 => .object "PlayedLaws$Chances"
  | _ => .int
abbrev wsX100 : List Cond := u_ws RX10 TX10 11
theorem nmX10 : ∀ a, a < 11 → ∀ b, b < 11 → a ≠ b → (TX10 a).2.1 ≠ (TX10 b).2.1 := by decide +kernel
theorem tyX10_ok : ∀ k, k < 11 → parseFieldDescriptor (TX10 k).2.2.1 = some (tyX10 k) := by decide +kernel
abbrev cX10_init : ByteArray := prog_1_method_1_code
def yX10_init : MethodName := ⟨RX10, "<init>", "()V"⟩
abbrev cX10_write : ByteArray := prog_1_method_2_code
def yX10_write : MethodName := ⟨RX10, "write", "(I)I"⟩
abbrev cX10_wipe : ByteArray := prog_1_method_3_code
def yX10_wipe : MethodName := ⟨RX10, "wipe", "()I"⟩
abbrev cX10_fault : ByteArray := prog_1_method_4_code
def yX10_fault : MethodName := ⟨RX10, "fault", "()I"⟩
abbrev cX10_lay : ByteArray := prog_1_method_5_code
def yX10_lay : MethodName := ⟨RX10, "lay", "()I"⟩
abbrev cX10_scene : ByteArray := prog_1_method_6_code
def yX10_scene : MethodName := ⟨RX10, "scene", "(II)I"⟩
abbrev cX10_seat : ByteArray := prog_1_method_7_code
def yX10_seat : MethodName := ⟨RX10, "seat", "(II)I"⟩
abbrev cX10_tonight : ByteArray := prog_1_method_8_code
def yX10_tonight : MethodName := ⟨RX10, "tonight", "(II)I"⟩
abbrev cX10_passes : ByteArray := prog_1_method_9_code
def yX10_passes : MethodName := ⟨RX10, "passes", "(I)I"⟩
abbrev cX10_add : ByteArray := prog_1_method_10_code
def yX10_add : MethodName := ⟨RX10, "add", "(I)I"⟩
abbrev cX10_cut : ByteArray := prog_1_method_11_code
def yX10_cut : MethodName := ⟨RX10, "cut", "(I)I"⟩
abbrev cX10_play : ByteArray := prog_1_method_12_code
def yX10_play : MethodName := ⟨RX10, "play", "()I"⟩
abbrev cX10_swap : ByteArray := prog_1_method_13_code
def yX10_swap : MethodName := ⟨RX10, "swap", "(II)I"⟩
abbrev cX10_hire : ByteArray := prog_1_method_14_code
def yX10_hire : MethodName := ⟨RX10, "hire", "(I)I"⟩
abbrev cX10_undo : ByteArray := prog_1_method_15_code
def yX10_undo : MethodName := ⟨RX10, "undo", "()I"⟩
abbrev cX10_soonest : ByteArray := prog_1_method_16_code
def yX10_soonest : MethodName := ⟨RX10, "soonest", "(II)I"⟩
abbrev cX10_seating : ByteArray := prog_1_method_17_code
def yX10_seating : MethodName := ⟨RX10, "seating", "(I)I"⟩
abbrev cX10_claques : ByteArray := prog_1_method_18_code
def yX10_claques : MethodName := ⟨RX10, "claques", "(I)I"⟩
abbrev cX10_falls : ByteArray := prog_1_method_19_code
def yX10_falls : MethodName := ⟨RX10, "falls", "()I"⟩
abbrev cX10_run : ByteArray := prog_1_method_20_code
def yX10_run : MethodName := ⟨RX10, "run", "()I"⟩
abbrev cX10_most : ByteArray := prog_1_method_21_code
def yX10_most : MethodName := ⟨RX10, "most", "(I)I"⟩
abbrev cX10_see : ByteArray := prog_1_method_22_code
def yX10_see : MethodName := ⟨RX10, "see", "(II)I"⟩
abbrev cX10_forget : ByteArray := prog_1_method_23_code
def yX10_forget : MethodName := ⟨RX10, "forget", "()I"⟩
abbrev cX10_fits : ByteArray := prog_1_method_24_code
def yX10_fits : MethodName := ⟨RX10, "fits", "(II)I"⟩
abbrev cX10_coughs : ByteArray := prog_1_method_25_code
def yX10_coughs : MethodName := ⟨RX10, "coughs", "(II)I"⟩
abbrev cX10_season : ByteArray := prog_1_method_26_code
def yX10_season : MethodName := ⟨RX10, "season", "(III)I"⟩
abbrev cX10_keep : ByteArray := prog_1_method_27_code
def yX10_keep : MethodName := ⟨RX10, "keep", "()I"⟩
abbrev cX10_back : ByteArray := prog_1_method_28_code
def yX10_back : MethodName := ⟨RX10, "back", "()I"⟩
abbrev cX10_count : ByteArray := prog_1_method_29_code
def yX10_count : MethodName := ⟨RX10, "count", "(I)I"⟩
abbrev cX10_open : ByteArray := prog_1_method_30_code
def yX10_open : MethodName := ⟨RX10, "open", "(LPlayedLaws$House;)V"⟩
abbrev cX10_remember : ByteArray := prog_1_method_31_code
def yX10_remember : MethodName := ⟨RX10, "remember", "()V"⟩
abbrev cX10_within : ByteArray := prog_1_method_32_code
def yX10_within : MethodName := ⟨RX10, "within", "(III)Z"⟩
abbrev cX10_isIn : ByteArray := prog_1_method_33_code
def yX10_isIn : MethodName := ⟨RX10, "isIn", "(II)Z"⟩
def RX11 : String := "PlayedLawsModel"
def TX11 : u_T := fun k => match k with
  | 0 => ("PlayedLawsModel", "text", "[B", true)
  | 1 => ("PlayedLawsModel", "typed", "I", false)
  | 2 => ("PlayedLawsModel", "scenes", "[I", true)
  | 3 => ("PlayedLawsModel", "kind", "[I", true)
  | 4 => ("PlayedLawsModel", "minutes", "[I", true)
  | 5 => ("PlayedLawsModel", "clause", "[I", true)
  | 6 => ("PlayedLawsModel", "seats", "[I", true)
  | 7 => ("PlayedLawsModel", "draftSort", "[I", true)
  | 8 => ("PlayedLawsModel", "taste", "[I", true)
  | 9 => ("PlayedLawsModel", "patience", "[I", true)
  | 10 => ("PlayedLawsModel", "draftBill", "[I", true)
  | 11 => ("PlayedLawsModel", "draftLong", "I", false)
  | 12 => ("PlayedLawsModel", "draftTill", "I", false)
  | 13 => ("PlayedLawsModel", "at", "I", false)
  | 14 => ("PlayedLawsModel", "isWrong", "Z", false)
  | 15 => ("PlayedLawsModel", "now", "[I", true)
  | 16 => ("PlayedLawsModel", "before", "[I", true)
  | 17 => ("PlayedLawsModel", "many", "I", false)
  | 18 => ("PlayedLawsModel", "store", "[I", true)
  | 19 => ("PlayedLawsModel", "kept", "I", false)
  | 20 => ("PlayedLawsModel", "tried", "[I", true)
  | 21 => ("PlayedLawsModel", "leaves", "[I", true)
  | 22 => ("PlayedLawsModel", "boredom", "[I", true)
  | 23 => ("PlayedLawsModel", "isAsleep", "[Z", true)
  | 24 => ("PlayedLawsModel", "saw", "[I", true)
  | 25 => ("PlayedLawsModel", "coughing", "I", false)
  | 26 => ("PlayedLawsModel", "best", "[I", true)
  | 27 => ("PlayedLawsModel", "sightOf", "[I", true)
  | 28 => ("PlayedLawsModel", "sightGo", "[I", true)
  | _ => ("PlayedLawsModel", "sights", "I", false)
def tyX11 : Nat → FieldType := fun k => match k with
  | 0 => .array .byte
  | 1 => .int
  | 2 => .array .int
  | 3 => .array .int
  | 4 => .array .int
  | 5 => .array .int
  | 6 => .array .int
  | 7 => .array .int
  | 8 => .array .int
  | 9 => .array .int
  | 10 => .array .int
  | 11 => .int
  | 12 => .int
  | 13 => .int
  | 14 => .boolean
  | 15 => .array .int
  | 16 => .array .int
  | 17 => .int
  | 18 => .array .int
  | 19 => .int
  | 20 => .array .int
  | 21 => .array .int
  | 22 => .array .int
  | 23 => .array .boolean
  | 24 => .array .int
  | 25 => .int
  | 26 => .array .int
  | 27 => .array .int
  | 28 => .array .int
  | _ => .int
abbrev wsX110 : List Cond := u_ws RX11 TX11 30
theorem nmX11 : ∀ a, a < 30 → ∀ b, b < 30 → a ≠ b → (TX11 a).2.1 ≠ (TX11 b).2.1 := by decide +kernel
theorem tyX11_ok : ∀ k, k < 30 → parseFieldDescriptor (TX11 k).2.2.1 = some (tyX11 k) := by decide +kernel
abbrev cX11_init : ByteArray := prog_13_method_1_code
def yX11_init : MethodName := ⟨RX11, "<init>", "()V"⟩
abbrev cX11_in : ByteArray := prog_13_method_3_code
def yX11_in : MethodName := ⟨RX11, "in", "(III)Z"⟩
abbrev cX11_write : ByteArray := prog_13_method_4_code
def yX11_write : MethodName := ⟨RX11, "write", "(I)I"⟩
abbrev cX11_wipe : ByteArray := prog_13_method_5_code
def yX11_wipe : MethodName := ⟨RX11, "wipe", "()I"⟩
abbrev cX11_here : ByteArray := prog_13_method_6_code
def yX11_here : MethodName := ⟨RX11, "here", "()I"⟩
abbrev cX11_isFigure : ByteArray := prog_13_method_7_code
def yX11_isFigure : MethodName := ⟨RX11, "isFigure", "()Z"⟩
abbrev cX11_due : ByteArray := prog_13_method_8_code
def yX11_due : MethodName := ⟨RX11, "due", "(I)V"⟩
abbrev cX11_number : ByteArray := prog_13_method_9_code
def yX11_number : MethodName := ⟨RX11, "number", "(II)I"⟩
abbrev cX11_readScene : ByteArray := prog_13_method_10_code
def yX11_readScene : MethodName := ⟨RX11, "readScene", "()V"⟩
abbrev cX11_readSeat : ByteArray := prog_13_method_11_code
def yX11_readSeat : MethodName := ⟨RX11, "readSeat", "()V"⟩
abbrev cX11_readBill : ByteArray := prog_13_method_12_code
def yX11_readBill : MethodName := ⟨RX11, "readBill", "()V"⟩
abbrev cX11_readItem : ByteArray := prog_13_method_13_code
def yX11_readItem : MethodName := ⟨RX11, "readItem", "()V"⟩
abbrev cX11_read : ByteArray := prog_13_method_14_code
def yX11_read : MethodName := ⟨RX11, "read", "()I"⟩
abbrev cX11_fault : ByteArray := prog_13_method_15_code
def yX11_fault : MethodName := ⟨RX11, "fault", "()I"⟩
abbrev cX11_tellScene : ByteArray := prog_13_method_16_code
def yX11_tellScene : MethodName := ⟨RX11, "tellScene", "(III)V"⟩
abbrev cX11_chair : ByteArray := prog_13_method_17_code
def yX11_chair : MethodName := ⟨RX11, "chair", "(III)V"⟩
abbrev cX11_onBill : ByteArray := prog_13_method_18_code
def yX11_onBill : MethodName := ⟨RX11, "onBill", "(I)V"⟩
abbrev cX11_first : ByteArray := prog_13_method_19_code
def yX11_first : MethodName := ⟨RX11, "first", "()V"⟩
abbrev cX11_takeDraft : ByteArray := prog_13_method_20_code
def yX11_takeDraft : MethodName := ⟨RX11, "takeDraft", "()V"⟩
abbrev cX11_lay : ByteArray := prog_13_method_21_code
def yX11_lay : MethodName := ⟨RX11, "lay", "()I"⟩
abbrev cX11_take : ByteArray := prog_13_method_22_code
def yX11_take : MethodName := ⟨RX11, "take", "()V"⟩
abbrev cX11_isScene : ByteArray := prog_13_method_23_code
def yX11_isScene : MethodName := ⟨RX11, "isScene", "(I)Z"⟩
abbrev cX11_isSeat : ByteArray := prog_13_method_24_code
def yX11_isSeat : MethodName := ⟨RX11, "isSeat", "(I)Z"⟩
abbrev cX11_placeOn : ByteArray := prog_13_method_25_code
def yX11_placeOn : MethodName := ⟨RX11, "placeOn", "([II)I"⟩
abbrev cX11_placeIn : ByteArray := prog_13_method_26_code
def yX11_placeIn : MethodName := ⟨RX11, "placeIn", "([II)I"⟩
abbrev cX11_bitsOf : ByteArray := prog_13_method_27_code
def yX11_bitsOf : MethodName := ⟨RX11, "bitsOf", "(I)I"⟩
abbrev cX11_claquesOf : ByteArray := prog_13_method_28_code
def yX11_claquesOf : MethodName := ⟨RX11, "claquesOf", "([I)I"⟩
abbrev cX11_boundOf : ByteArray := prog_13_method_29_code
def yX11_boundOf : MethodName := ⟨RX11, "boundOf", "([I)I"⟩
abbrev cX11_isGone : ByteArray := prog_13_method_30_code
def yX11_isGone : MethodName := ⟨RX11, "isGone", "([II)Z"⟩
abbrev cX11_bore : ByteArray := prog_13_method_31_code
def yX11_bore : MethodName := ⟨RX11, "bore", "([III)V"⟩
abbrev cX11_canLeave : ByteArray := prog_13_method_32_code
def yX11_canLeave : MethodName := ⟨RX11, "canLeave", "([II)Z"⟩
abbrev cX11_settle : ByteArray := prog_13_method_33_code
def yX11_settle : MethodName := ⟨RX11, "settle", "([III)V"⟩
abbrev cX11_go : ByteArray := prog_13_method_34_code
def yX11_go : MethodName := ⟨RX11, "go", "([I)I"⟩
abbrev cX11_doesPass : ByteArray := prog_13_method_35_code
def yX11_doesPass : MethodName := ⟨RX11, "doesPass", "([I)Z"⟩
abbrev cX11_bind : ByteArray := prog_13_method_36_code
def yX11_bind : MethodName := ⟨RX11, "bind", "([I)V"⟩
abbrev cX11_canPlay : ByteArray := prog_13_method_37_code
def yX11_canPlay : MethodName := ⟨RX11, "canPlay", "([I)Z"⟩
abbrev cX11_playOn : ByteArray := prog_13_method_38_code
def yX11_playOn : MethodName := ⟨RX11, "playOn", "([I)Z"⟩
abbrev cX11_scene : ByteArray := prog_13_method_39_code
def yX11_scene : MethodName := ⟨RX11, "scene", "(II)I"⟩
abbrev cX11_seat : ByteArray := prog_13_method_40_code
def yX11_seat : MethodName := ⟨RX11, "seat", "(II)I"⟩
abbrev cX11_tonight : ByteArray := prog_13_method_41_code
def yX11_tonight : MethodName := ⟨RX11, "tonight", "(II)I"⟩
abbrev cX11_passes : ByteArray := prog_13_method_42_code
def yX11_passes : MethodName := ⟨RX11, "passes", "(I)I"⟩
abbrev cX11_know : ByteArray := prog_13_method_43_code
def yX11_know : MethodName := ⟨RX11, "know", "()V"⟩
abbrev cX11_putOn : ByteArray := prog_13_method_44_code
def yX11_putOn : MethodName := ⟨RX11, "putOn", "([III)V"⟩
abbrev cX11_takeOff : ByteArray := prog_13_method_45_code
def yX11_takeOff : MethodName := ⟨RX11, "takeOff", "([II)V"⟩
abbrev cX11_change : ByteArray := prog_13_method_46_code
def yX11_change : MethodName := ⟨RX11, "change", "([III)V"⟩
abbrev cX11_canHire : ByteArray := prog_13_method_47_code
def yX11_canHire : MethodName := ⟨RX11, "canHire", "([II)Z"⟩
abbrev cX11_hireFor : ByteArray := prog_13_method_48_code
def yX11_hireFor : MethodName := ⟨RX11, "hireFor", "([II)V"⟩
abbrev cX11_add : ByteArray := prog_13_method_49_code
def yX11_add : MethodName := ⟨RX11, "add", "(I)I"⟩
abbrev cX11_cut : ByteArray := prog_13_method_50_code
def yX11_cut : MethodName := ⟨RX11, "cut", "(I)I"⟩
abbrev cX11_play : ByteArray := prog_13_method_51_code
def yX11_play : MethodName := ⟨RX11, "play", "()I"⟩
abbrev cX11_swap : ByteArray := prog_13_method_52_code
def yX11_swap : MethodName := ⟨RX11, "swap", "(II)I"⟩
abbrev cX11_hire : ByteArray := prog_13_method_53_code
def yX11_hire : MethodName := ⟨RX11, "hire", "(I)I"⟩
abbrev cX11_undo : ByteArray := prog_13_method_54_code
def yX11_undo : MethodName := ⟨RX11, "undo", "()I"⟩
abbrev cX11_clausesTried : ByteArray := prog_13_method_55_code
def yX11_clausesTried : MethodName := ⟨RX11, "clausesTried", "()I"⟩
abbrev cX11_minutesTried : ByteArray := prog_13_method_56_code
def yX11_minutesTried : MethodName := ⟨RX11, "minutesTried", "()I"⟩
abbrev cX11_nextBill : ByteArray := prog_13_method_57_code
def yX11_nextBill : MethodName := ⟨RX11, "nextBill", "()Z"⟩
abbrev cX11_soonest : ByteArray := prog_13_method_58_code
def yX11_soonest : MethodName := ⟨RX11, "soonest", "(II)I"⟩
abbrev cX11_nextRow : ByteArray := prog_13_method_59_code
def yX11_nextRow : MethodName := ⟨RX11, "nextRow", "()Z"⟩
abbrev cX11_seating : ByteArray := prog_13_method_60_code
def yX11_seating : MethodName := ⟨RX11, "seating", "(I)I"⟩
abbrev cX11_claques : ByteArray := prog_13_method_61_code
def yX11_claques : MethodName := ⟨RX11, "claques", "(I)I"⟩
abbrev cX11_falls : ByteArray := prog_13_method_62_code
def yX11_falls : MethodName := ⟨RX11, "falls", "()I"⟩
abbrev cX11_run : ByteArray := prog_13_method_63_code
def yX11_run : MethodName := ⟨RX11, "run", "()I"⟩
abbrev cX11_most : ByteArray := prog_13_method_64_code
def yX11_most : MethodName := ⟨RX11, "most", "(I)I"⟩
abbrev cX11_see : ByteArray := prog_13_method_65_code
def yX11_see : MethodName := ⟨RX11, "see", "(II)I"⟩
abbrev cX11_forget : ByteArray := prog_13_method_66_code
def yX11_forget : MethodName := ⟨RX11, "forget", "()I"⟩
abbrev cX11_isSo : ByteArray := prog_13_method_67_code
def yX11_isSo : MethodName := ⟨RX11, "isSo", "(I)Z"⟩
abbrev cX11_fits : ByteArray := prog_13_method_68_code
def yX11_fits : MethodName := ⟨RX11, "fits", "(II)I"⟩
abbrev cX11_coughs : ByteArray := prog_13_method_69_code
def yX11_coughs : MethodName := ⟨RX11, "coughs", "(II)I"⟩
abbrev cX11_turn : ByteArray := prog_13_method_70_code
def yX11_turn : MethodName := ⟨RX11, "turn", "(I)I"⟩
abbrev cX11_season : ByteArray := prog_13_method_71_code
def yX11_season : MethodName := ⟨RX11, "season", "(III)I"⟩
abbrev cX11_keep : ByteArray := prog_13_method_72_code
def yX11_keep : MethodName := ⟨RX11, "keep", "()I"⟩
abbrev cX11_back : ByteArray := prog_13_method_73_code
def yX11_back : MethodName := ⟨RX11, "back", "()I"⟩
abbrev cX11_count : ByteArray := prog_13_method_74_code
def yX11_count : MethodName := ⟨RX11, "count", "(I)I"⟩
def RJx145de : String := "java/io/Serializable"
def TJx145de : u_T := fun k => match k with
  | _ => ("", "", "", false)
def tyJx145de : Nat → FieldType := fun k => match k with
  | _ => .int
abbrev wsJx145de0 : List Cond := u_ws RJx145de TJx145de 0
theorem nmJx145de : ∀ a, a < 0 → ∀ b, b < 0 → a ≠ b → (TJx145de a).2.1 ≠ (TJx145de b).2.1 := by decide +kernel
theorem tyJx145de_ok : ∀ k, k < 0 → parseFieldDescriptor (TJx145de k).2.2.1 = some (tyJx145de k) := by decide +kernel
def RJx9f9b0 : String := "java/lang/CharSequence"
def TJx9f9b0 : u_T := fun k => match k with
  | _ => ("", "", "", false)
def tyJx9f9b0 : Nat → FieldType := fun k => match k with
  | _ => .int
abbrev wsJx9f9b00 : List Cond := u_ws RJx9f9b0 TJx9f9b0 0
theorem nmJx9f9b0 : ∀ a, a < 0 → ∀ b, b < 0 → a ≠ b → (TJx9f9b0 a).2.1 ≠ (TJx9f9b0 b).2.1 := by decide +kernel
theorem tyJx9f9b0_ok : ∀ k, k < 0 → parseFieldDescriptor (TJx9f9b0 k).2.2.1 = some (tyJx9f9b0 k) := by decide +kernel
def RJxb160c : String := "java/lang/Comparable"
def TJxb160c : u_T := fun k => match k with
  | _ => ("", "", "", false)
def tyJxb160c : Nat → FieldType := fun k => match k with
  | _ => .int
abbrev wsJxb160c0 : List Cond := u_ws RJxb160c TJxb160c 0
theorem nmJxb160c : ∀ a, a < 0 → ∀ b, b < 0 → a ≠ b → (TJxb160c a).2.1 ≠ (TJxb160c b).2.1 := by decide +kernel
theorem tyJxb160c_ok : ∀ k, k < 0 → parseFieldDescriptor (TJxb160c k).2.2.1 = some (tyJxb160c k) := by decide +kernel
def RJ6 : String := "java/lang/Integer"
def TJ6 : u_T := fun k => match k with
  | _ => ("", "", "", false)
def tyJ6 : Nat → FieldType := fun k => match k with
  | _ => .int
abbrev wsJ60 : List Cond := u_ws RJ6 TJ6 0
theorem nmJ6 : ∀ a, a < 0 → ∀ b, b < 0 → a ≠ b → (TJ6 a).2.1 ≠ (TJ6 b).2.1 := by decide +kernel
theorem tyJ6_ok : ∀ k, k < 0 → parseFieldDescriptor (TJ6 k).2.2.1 = some (tyJ6 k) := by decide +kernel
abbrev cJ6_bitCount_0f7a4 : ByteArray := prog_14_method_49_code
def yJ6_bitCount_0f7a4 : MethodName := ⟨RJ6, "bitCount", "(I)I"⟩
def RJ9 : String := "java/lang/Math"
def TJ9 : u_T := fun k => match k with
  | _ => ("", "", "", false)
def tyJ9 : Nat → FieldType := fun k => match k with
  | _ => .int
abbrev wsJ90 : List Cond := u_ws RJ9 TJ9 0
theorem nmJ9 : ∀ a, a < 0 → ∀ b, b < 0 → a ≠ b → (TJ9 a).2.1 ≠ (TJ9 b).2.1 := by decide +kernel
theorem tyJ9_ok : ∀ k, k < 0 → parseFieldDescriptor (TJ9 k).2.2.1 = some (tyJ9 k) := by decide +kernel
abbrev cJ9_max_7cf53 : ByteArray := prog_15_method_65_code
def yJ9_max_7cf53 : MethodName := ⟨RJ9, "max", "(II)I"⟩
abbrev cJ9_min_7cf53 : ByteArray := prog_15_method_69_code
def yJ9_min_7cf53 : MethodName := ⟨RJ9, "min", "(II)I"⟩
def RJ0 : String := "java/lang/String"
def TJ0 : u_T := fun k => match k with
  | _ => ("", "", "", false)
def tyJ0 : Nat → FieldType := fun k => match k with
  | _ => .int
abbrev wsJ00 : List Cond := u_ws RJ0 TJ0 0
theorem nmJ0 : ∀ a, a < 0 → ∀ b, b < 0 → a ≠ b → (TJ0 a).2.1 ≠ (TJ0 b).2.1 := by decide +kernel
theorem tyJ0_ok : ∀ k, k < 0 → parseFieldDescriptor (TJ0 k).2.2.1 = some (tyJ0 k) := by decide +kernel
abbrev cJ0_length_8abf5 : ByteArray := prog_16_method_54_code
def yJ0_length_8abf5 : MethodName := ⟨RJ0, "length", "()I"⟩
abbrev cJ0_charAt_5068e : ByteArray := prog_16_method_56_code
def yJ0_charAt_5068e : MethodName := ⟨RJ0, "charAt", "(I)C"⟩
abbrev cJ0_coder_7d493 : ByteArray := prog_16_method_152_code
def yJ0_coder_7d493 : MethodName := ⟨RJ0, "coder", "()B"⟩
abbrev cJ0_isLatin1_aae02 : ByteArray := prog_16_method_154_code
def yJ0_isLatin1_aae02 : MethodName := ⟨RJ0, "isLatin1", "()Z"⟩
abbrev cJ0_checkIndex_df160 : ByteArray := prog_16_method_155_code
def yJ0_checkIndex_df160 : MethodName := ⟨RJ0, "checkIndex", "(II)V"⟩
def RJ1 : String := "java/lang/StringLatin1"
def TJ1 : u_T := fun k => match k with
  | _ => ("", "", "", false)
def tyJ1 : Nat → FieldType := fun k => match k with
  | _ => .int
abbrev wsJ10 : List Cond := u_ws RJ1 TJ1 0
theorem nmJ1 : ∀ a, a < 0 → ∀ b, b < 0 → a ≠ b → (TJ1 a).2.1 ≠ (TJ1 b).2.1 := by decide +kernel
theorem tyJ1_ok : ∀ k, k < 0 → parseFieldDescriptor (TJ1 k).2.2.1 = some (tyJ1 k) := by decide +kernel
abbrev cJ1_charAt_3b067 : ByteArray := prog_17_method_2_code
def yJ1_charAt_3b067 : MethodName := ⟨RJ1, "charAt", "([BI)C"⟩
def RJ2 : String := "java/lang/StringUTF16"
def TJ2 : u_T := fun k => match k with
  | _ => ("", "", "", false)
def tyJ2 : Nat → FieldType := fun k => match k with
  | _ => .int
abbrev wsJ20 : List Cond := u_ws RJ2 TJ2 0
theorem nmJ2 : ∀ a, a < 0 → ∀ b, b < 0 → a ≠ b → (TJ2 a).2.1 ≠ (TJ2 b).2.1 := by decide +kernel
theorem tyJ2_ok : ∀ k, k < 0 → parseFieldDescriptor (TJ2 k).2.2.1 = some (tyJ2 k) := by decide +kernel
abbrev cJ2_getChar_3b067 : ByteArray := prog_18_method_5_code
def yJ2_getChar_3b067 : MethodName := ⟨RJ2, "getChar", "([BI)C"⟩
abbrev cJ2_length_9d52b : ByteArray := prog_18_method_6_code
def yJ2_length_9d52b : MethodName := ⟨RJ2, "length", "([B)I"⟩
abbrev cJ2_charAt_3b067 : ByteArray := prog_18_method_83_code
def yJ2_charAt_3b067 : MethodName := ⟨RJ2, "charAt", "([BI)C"⟩
abbrev cJ2_checkIndex_2214a : ByteArray := prog_18_method_91_code
def yJ2_checkIndex_2214a : MethodName := ⟨RJ2, "checkIndex", "(I[B)V"⟩
def RJ10 : String := "java/lang/System"
def TJ10 : u_T := fun k => match k with
  | _ => ("", "", "", false)
def tyJ10 : Nat → FieldType := fun k => match k with
  | _ => .int
abbrev wsJ100 : List Cond := u_ws RJ10 TJ10 0
theorem nmJ10 : ∀ a, a < 0 → ∀ b, b < 0 → a ≠ b → (TJ10 a).2.1 ≠ (TJ10 b).2.1 := by decide +kernel
theorem tyJ10_ok : ∀ k, k < 0 → parseFieldDescriptor (TJ10 k).2.2.1 = some (tyJ10 k) := by decide +kernel
def RJxfd54e : String := "java/lang/constant/Constable"
def TJxfd54e : u_T := fun k => match k with
  | _ => ("", "", "", false)
def tyJxfd54e : Nat → FieldType := fun k => match k with
  | _ => .int
abbrev wsJxfd54e0 : List Cond := u_ws RJxfd54e TJxfd54e 0
theorem nmJxfd54e : ∀ a, a < 0 → ∀ b, b < 0 → a ≠ b → (TJxfd54e a).2.1 ≠ (TJxfd54e b).2.1 := by decide +kernel
theorem tyJxfd54e_ok : ∀ k, k < 0 → parseFieldDescriptor (TJxfd54e k).2.2.1 = some (tyJxfd54e k) := by decide +kernel
def RJx3cf43 : String := "java/lang/constant/ConstantDesc"
def TJx3cf43 : u_T := fun k => match k with
  | _ => ("", "", "", false)
def tyJx3cf43 : Nat → FieldType := fun k => match k with
  | _ => .int
abbrev wsJx3cf430 : List Cond := u_ws RJx3cf43 TJx3cf43 0
theorem nmJx3cf43 : ∀ a, a < 0 → ∀ b, b < 0 → a ≠ b → (TJx3cf43 a).2.1 ≠ (TJx3cf43 b).2.1 := by decide +kernel
theorem tyJx3cf43_ok : ∀ k, k < 0 → parseFieldDescriptor (TJx3cf43 k).2.2.1 = some (tyJx3cf43 k) := by decide +kernel
def RJ7 : String := "java/util/Arrays"
def TJ7 : u_T := fun k => match k with
  | _ => ("", "", "", false)
def tyJ7 : Nat → FieldType := fun k => match k with
  | _ => .int
abbrev wsJ70 : List Cond := u_ws RJ7 TJ7 0
theorem nmJ7 : ∀ a, a < 0 → ∀ b, b < 0 → a ≠ b → (TJ7 a).2.1 ≠ (TJ7 b).2.1 := by decide +kernel
theorem tyJ7_ok : ∀ k, k < 0 → parseFieldDescriptor (TJ7 k).2.2.1 = some (tyJ7 k) := by decide +kernel
abbrev cJ7_fill_53178 : ByteArray := prog_20_method_103_code
def yJ7_fill_53178 : MethodName := ⟨RJ7, "fill", "([II)V"⟩
def RJ3 : String := "jdk/internal/util/Preconditions"
def TJ3 : u_T := fun k => match k with
  | _ => ("", "", "", false)
def tyJ3 : Nat → FieldType := fun k => match k with
  | _ => .int
abbrev wsJ30 : List Cond := u_ws RJ3 TJ3 0
theorem nmJ3 : ∀ a, a < 0 → ∀ b, b < 0 → a ≠ b → (TJ3 a).2.1 ≠ (TJ3 b).2.1 := by decide +kernel
theorem tyJ3_ok : ∀ k, k < 0 → parseFieldDescriptor (TJ3 k).2.2.1 = some (tyJ3 k) := by decide +kernel
abbrev cJ3_checkIndex_8e157 : ByteArray := prog_21_method_11_code
def yJ3_checkIndex_8e157 : MethodName := ⟨RJ3, "checkIndex", "(IILjava/util/function/BiFunction;)I"⟩
def RL : String := "PlayedLawsLaw"
abbrev cL_law : ByteArray := code
def yL_law : MethodName := ⟨RL, "law", "([I)Z"⟩
