section
-- ===== PART A: goes FIRST, ahead of the names: the tables' words, and 'selects' of the private methods out of them =====
/-- a private method of a class that the tables say can be made, by its rows of tables_1 -/
def lw_okq (q : MethodName × Nat) : Prop := (q.1.cls ≠ "java/lang/invoke/MethodHandle" ∧ q.1.cls ≠ "java/lang/invoke/VarHandle") ∧ Cond.instantiable q.1.cls q.2 ∈ tables_1 ∧ Cond.privateMethod q.1 ∈ tables_1 ∧ Cond.instanceMethod q.1 ∈ tables_1
theorem lw_p0 : lw_okq (⟨"PlayedLaws$Text", "readItem", "()Z"⟩, 4) := ⟨⟨by decide +kernel, by decide +kernel⟩, List.mem_of_getElem? (i := 30) (by decide +kernel), List.mem_of_getElem? (i := 434) (by decide +kernel), List.mem_of_getElem? (i := 435) (by decide +kernel)⟩
theorem lw_p1 : lw_okq (⟨"PlayedLaws$Text", "next", "()I"⟩, 4) := ⟨⟨by decide +kernel, by decide +kernel⟩, List.mem_of_getElem? (i := 30) (by decide +kernel), List.mem_of_getElem? (i := 438) (by decide +kernel), List.mem_of_getElem? (i := 439) (by decide +kernel)⟩
theorem lw_p2 : lw_okq (⟨"PlayedLaws$Text", "readScene", "()Z"⟩, 4) := ⟨⟨by decide +kernel, by decide +kernel⟩, List.mem_of_getElem? (i := 30) (by decide +kernel), List.mem_of_getElem? (i := 446) (by decide +kernel), List.mem_of_getElem? (i := 447) (by decide +kernel)⟩
theorem lw_p3 : lw_okq (⟨"PlayedLaws$Text", "number", "(III)I"⟩, 4) := ⟨⟨by decide +kernel, by decide +kernel⟩, List.mem_of_getElem? (i := 30) (by decide +kernel), List.mem_of_getElem? (i := 450) (by decide +kernel), List.mem_of_getElem? (i := 451) (by decide +kernel)⟩
theorem lw_p4 : lw_okq (⟨"PlayedLaws$Text", "readSeat", "()Z"⟩, 4) := ⟨⟨by decide +kernel, by decide +kernel⟩, List.mem_of_getElem? (i := 30) (by decide +kernel), List.mem_of_getElem? (i := 465) (by decide +kernel), List.mem_of_getElem? (i := 466) (by decide +kernel)⟩
theorem lw_p5 : lw_okq (⟨"PlayedLaws$Text", "readBill", "()Z"⟩, 4) := ⟨⟨by decide +kernel, by decide +kernel⟩, List.mem_of_getElem? (i := 30) (by decide +kernel), List.mem_of_getElem? (i := 473) (by decide +kernel), List.mem_of_getElem? (i := 474) (by decide +kernel)⟩
theorem lw_p6 : lw_okq (⟨"PlayedLaws$Text", "readTill", "()Z"⟩, 4) := ⟨⟨by decide +kernel, by decide +kernel⟩, List.mem_of_getElem? (i := 30) (by decide +kernel), List.mem_of_getElem? (i := 499) (by decide +kernel), List.mem_of_getElem? (i := 500) (by decide +kernel)⟩
theorem lw_p7 : lw_okq (⟨"PlayedLaws", "open", "(LPlayedLaws$House;)V"⟩, 11) := ⟨⟨by decide +kernel, by decide +kernel⟩, List.mem_of_getElem? (i := 22) (by decide +kernel), List.mem_of_getElem? (i := 503) (by decide +kernel), List.mem_of_getElem? (i := 504) (by decide +kernel)⟩
theorem lw_p8 : lw_okq (⟨"PlayedLaws$Night", "watch", "(LPlayedLaws$House;I)V"⟩, 6) := ⟨⟨by decide +kernel, by decide +kernel⟩, List.mem_of_getElem? (i := 203) (by decide +kernel), List.mem_of_getElem? (i := 612) (by decide +kernel), List.mem_of_getElem? (i := 613) (by decide +kernel)⟩
theorem lw_p9 : lw_okq (⟨"PlayedLaws$Night", "leave", "(LPlayedLaws$House;II)V"⟩, 6) := ⟨⟨by decide +kernel, by decide +kernel⟩, List.mem_of_getElem? (i := 203) (by decide +kernel), List.mem_of_getElem? (i := 621) (by decide +kernel), List.mem_of_getElem? (i := 622) (by decide +kernel)⟩
theorem lw_p10 : lw_okq (⟨"PlayedLaws$Night", "bore", "(LPlayedLaws$House;II)V"⟩, 6) := ⟨⟨by decide +kernel, by decide +kernel⟩, List.mem_of_getElem? (i := 203) (by decide +kernel), List.mem_of_getElem? (i := 625) (by decide +kernel), List.mem_of_getElem? (i := 626) (by decide +kernel)⟩
theorem lw_p11 : lw_okq (⟨"PlayedLaws$Night", "isDrivenOut", "(LPlayedLaws$House;I)Z"⟩, 6) := ⟨⟨by decide +kernel, by decide +kernel⟩, List.mem_of_getElem? (i := 203) (by decide +kernel), List.mem_of_getElem? (i := 633) (by decide +kernel), List.mem_of_getElem? (i := 634) (by decide +kernel)⟩
theorem lw_p12 : lw_okq (⟨"PlayedLaws", "remember", "()V"⟩, 11) := ⟨⟨by decide +kernel, by decide +kernel⟩, List.mem_of_getElem? (i := 22) (by decide +kernel), List.mem_of_getElem? (i := 650) (by decide +kernel), List.mem_of_getElem? (i := 651) (by decide +kernel)⟩
theorem lw_p13 : lw_okq (⟨"PlayedLaws$House", "bind", "(III)V"⟩, 16) := ⟨⟨by decide +kernel, by decide +kernel⟩, List.mem_of_getElem? (i := 47) (by decide +kernel), List.mem_of_getElem? (i := 701) (by decide +kernel), List.mem_of_getElem? (i := 702) (by decide +kernel)⟩
theorem lw_p14 : lw_okq (⟨"PlayedLaws$Shortest", "endures", "(II)Z"⟩, 7) := ⟨⟨by decide +kernel, by decide +kernel⟩, List.mem_of_getElem? (i := 238) (by decide +kernel), List.mem_of_getElem? (i := 757) (by decide +kernel), List.mem_of_getElem? (i := 758) (by decide +kernel)⟩
theorem lw_p15 : lw_okq (⟨"PlayedLaws$Shortest", "evening", "(I)LPlayedLaws$Night;"⟩, 7) := ⟨⟨by decide +kernel, by decide +kernel⟩, List.mem_of_getElem? (i := 238) (by decide +kernel), List.mem_of_getElem? (i := 761) (by decide +kernel), List.mem_of_getElem? (i := 762) (by decide +kernel)⟩
def lw_privs_1 : List (MethodName × Nat) := [(⟨"PlayedLaws$Text", "readItem", "()Z"⟩, 4), (⟨"PlayedLaws$Text", "next", "()I"⟩, 4), (⟨"PlayedLaws$Text", "readScene", "()Z"⟩, 4), (⟨"PlayedLaws$Text", "number", "(III)I"⟩, 4), (⟨"PlayedLaws$Text", "readSeat", "()Z"⟩, 4), (⟨"PlayedLaws$Text", "readBill", "()Z"⟩, 4), (⟨"PlayedLaws$Text", "readTill", "()Z"⟩, 4), (⟨"PlayedLaws", "open", "(LPlayedLaws$House;)V"⟩, 11), (⟨"PlayedLaws$Night", "watch", "(LPlayedLaws$House;I)V"⟩, 6), (⟨"PlayedLaws$Night", "leave", "(LPlayedLaws$House;II)V"⟩, 6), (⟨"PlayedLaws$Night", "bore", "(LPlayedLaws$House;II)V"⟩, 6), (⟨"PlayedLaws$Night", "isDrivenOut", "(LPlayedLaws$House;I)Z"⟩, 6), (⟨"PlayedLaws", "remember", "()V"⟩, 11), (⟨"PlayedLaws$House", "bind", "(III)V"⟩, 16), (⟨"PlayedLaws$Shortest", "endures", "(II)Z"⟩, 7), (⟨"PlayedLaws$Shortest", "evening", "(I)LPlayedLaws$Night;"⟩, 7)]
theorem lw_r1 : ∀ q ∈ lw_privs_1, lw_okq q := List.forall_mem_cons.mpr ⟨lw_p0, List.forall_mem_cons.mpr ⟨lw_p1, List.forall_mem_cons.mpr ⟨lw_p2, List.forall_mem_cons.mpr ⟨lw_p3, List.forall_mem_cons.mpr ⟨lw_p4, List.forall_mem_cons.mpr ⟨lw_p5, List.forall_mem_cons.mpr ⟨lw_p6, List.forall_mem_cons.mpr ⟨lw_p7, List.forall_mem_cons.mpr ⟨lw_p8, List.forall_mem_cons.mpr ⟨lw_p9, List.forall_mem_cons.mpr ⟨lw_p10, List.forall_mem_cons.mpr ⟨lw_p11, List.forall_mem_cons.mpr ⟨lw_p12, List.forall_mem_cons.mpr ⟨lw_p13, List.forall_mem_cons.mpr ⟨lw_p14, List.forall_mem_cons.mpr ⟨lw_p15, fun _ h => absurd h List.not_mem_nil⟩⟩⟩⟩⟩⟩⟩⟩⟩⟩⟩⟩⟩⟩⟩⟩
theorem lw_p16 : lw_okq (⟨"PlayedLaws$Shortest", "bindable", "(I)I"⟩, 7) := ⟨⟨by decide +kernel, by decide +kernel⟩, List.mem_of_getElem? (i := 238) (by decide +kernel), List.mem_of_getElem? (i := 773) (by decide +kernel), List.mem_of_getElem? (i := 774) (by decide +kernel)⟩
theorem lw_p17 : lw_okq (⟨"PlayedLaws$Shortest", "note", "(II)V"⟩, 7) := ⟨⟨by decide +kernel, by decide +kernel⟩, List.mem_of_getElem? (i := 238) (by decide +kernel), List.mem_of_getElem? (i := 778) (by decide +kernel), List.mem_of_getElem? (i := 779) (by decide +kernel)⟩
theorem lw_p18 : lw_okq (⟨"PlayedLaws$Lineup", "patientAlone", "(LPlayedLaws$House;)I"⟩, 5) := ⟨⟨by decide +kernel, by decide +kernel⟩, List.mem_of_getElem? (i := 276) (by decide +kernel), List.mem_of_getElem? (i := 791) (by decide +kernel), List.mem_of_getElem? (i := 792) (by decide +kernel)⟩
theorem lw_p19 : lw_okq (⟨"PlayedLaws$Lineup", "tryLine", "()V"⟩, 5) := ⟨⟨by decide +kernel, by decide +kernel⟩, List.mem_of_getElem? (i := 276) (by decide +kernel), List.mem_of_getElem? (i := 799) (by decide +kernel), List.mem_of_getElem? (i := 800) (by decide +kernel)⟩
theorem lw_p20 : lw_okq (⟨"PlayedLaws$Lineup", "nextLine", "()Z"⟩, 5) := ⟨⟨by decide +kernel, by decide +kernel⟩, List.mem_of_getElem? (i := 276) (by decide +kernel), List.mem_of_getElem? (i := 804) (by decide +kernel), List.mem_of_getElem? (i := 805) (by decide +kernel)⟩
theorem lw_p21 : lw_okq (⟨"PlayedLaws$Outlook", "trialPasses", "()Z"⟩, 4) := ⟨⟨by decide +kernel, by decide +kernel⟩, List.mem_of_getElem? (i := 306) (by decide +kernel), List.mem_of_getElem? (i := 827) (by decide +kernel), List.mem_of_getElem? (i := 828) (by decide +kernel)⟩
theorem lw_p22 : lw_okq (⟨"PlayedLaws$Outlook", "tryAddition", "(LPlayedLaws$House;II)V"⟩, 4) := ⟨⟨by decide +kernel, by decide +kernel⟩, List.mem_of_getElem? (i := 306) (by decide +kernel), List.mem_of_getElem? (i := 861) (by decide +kernel), List.mem_of_getElem? (i := 862) (by decide +kernel)⟩
theorem lw_p23 : lw_okq (⟨"PlayedLaws$Outlook", "trialAgrees", "(LPlayedLaws$Sights;I)Z"⟩, 4) := ⟨⟨by decide +kernel, by decide +kernel⟩, List.mem_of_getElem? (i := 306) (by decide +kernel), List.mem_of_getElem? (i := 893) (by decide +kernel), List.mem_of_getElem? (i := 894) (by decide +kernel)⟩
theorem lw_p24 : lw_okq (⟨"PlayedLaws$Chances", "takeDraw", "(I)V"⟩, 4) := ⟨⟨by decide +kernel, by decide +kernel⟩, List.mem_of_getElem? (i := 331) (by decide +kernel), List.mem_of_getElem? (i := 940) (by decide +kernel), List.mem_of_getElem? (i := 941) (by decide +kernel)⟩
theorem lw_p25 : lw_okq (⟨"PlayedLawsModel", "first", "()V"⟩, 30) := ⟨⟨by decide +kernel, by decide +kernel⟩, List.mem_of_getElem? (i := 966) (by decide +kernel), List.mem_of_getElem? (i := 972) (by decide +kernel), List.mem_of_getElem? (i := 973) (by decide +kernel)⟩
theorem lw_p26 : lw_okq (⟨"PlayedLawsModel", "tellScene", "(III)V"⟩, 30) := ⟨⟨by decide +kernel, by decide +kernel⟩, List.mem_of_getElem? (i := 966) (by decide +kernel), List.mem_of_getElem? (i := 976) (by decide +kernel), List.mem_of_getElem? (i := 977) (by decide +kernel)⟩
theorem lw_p27 : lw_okq (⟨"PlayedLawsModel", "chair", "(III)V"⟩, 30) := ⟨⟨by decide +kernel, by decide +kernel⟩, List.mem_of_getElem? (i := 966) (by decide +kernel), List.mem_of_getElem? (i := 980) (by decide +kernel), List.mem_of_getElem? (i := 981) (by decide +kernel)⟩
theorem lw_p28 : lw_okq (⟨"PlayedLawsModel", "onBill", "(I)V"⟩, 30) := ⟨⟨by decide +kernel, by decide +kernel⟩, List.mem_of_getElem? (i := 966) (by decide +kernel), List.mem_of_getElem? (i := 984) (by decide +kernel), List.mem_of_getElem? (i := 985) (by decide +kernel)⟩
theorem lw_p29 : lw_okq (⟨"PlayedLawsModel", "takeDraft", "()V"⟩, 30) := ⟨⟨by decide +kernel, by decide +kernel⟩, List.mem_of_getElem? (i := 966) (by decide +kernel), List.mem_of_getElem? (i := 988) (by decide +kernel), List.mem_of_getElem? (i := 989) (by decide +kernel)⟩
theorem lw_p30 : lw_okq (⟨"PlayedLawsModel", "read", "()I"⟩, 30) := ⟨⟨by decide +kernel, by decide +kernel⟩, List.mem_of_getElem? (i := 966) (by decide +kernel), List.mem_of_getElem? (i := 1099) (by decide +kernel), List.mem_of_getElem? (i := 1100) (by decide +kernel)⟩
theorem lw_p31 : lw_okq (⟨"PlayedLawsModel", "readItem", "()V"⟩, 30) := ⟨⟨by decide +kernel, by decide +kernel⟩, List.mem_of_getElem? (i := 966) (by decide +kernel), List.mem_of_getElem? (i := 1103) (by decide +kernel), List.mem_of_getElem? (i := 1104) (by decide +kernel)⟩
def lw_privs_2 : List (MethodName × Nat) := [(⟨"PlayedLaws$Shortest", "bindable", "(I)I"⟩, 7), (⟨"PlayedLaws$Shortest", "note", "(II)V"⟩, 7), (⟨"PlayedLaws$Lineup", "patientAlone", "(LPlayedLaws$House;)I"⟩, 5), (⟨"PlayedLaws$Lineup", "tryLine", "()V"⟩, 5), (⟨"PlayedLaws$Lineup", "nextLine", "()Z"⟩, 5), (⟨"PlayedLaws$Outlook", "trialPasses", "()Z"⟩, 4), (⟨"PlayedLaws$Outlook", "tryAddition", "(LPlayedLaws$House;II)V"⟩, 4), (⟨"PlayedLaws$Outlook", "trialAgrees", "(LPlayedLaws$Sights;I)Z"⟩, 4), (⟨"PlayedLaws$Chances", "takeDraw", "(I)V"⟩, 4), (⟨"PlayedLawsModel", "first", "()V"⟩, 30), (⟨"PlayedLawsModel", "tellScene", "(III)V"⟩, 30), (⟨"PlayedLawsModel", "chair", "(III)V"⟩, 30), (⟨"PlayedLawsModel", "onBill", "(I)V"⟩, 30), (⟨"PlayedLawsModel", "takeDraft", "()V"⟩, 30), (⟨"PlayedLawsModel", "read", "()I"⟩, 30), (⟨"PlayedLawsModel", "readItem", "()V"⟩, 30)]
theorem lw_r2 : ∀ q ∈ lw_privs_2, lw_okq q := List.forall_mem_cons.mpr ⟨lw_p16, List.forall_mem_cons.mpr ⟨lw_p17, List.forall_mem_cons.mpr ⟨lw_p18, List.forall_mem_cons.mpr ⟨lw_p19, List.forall_mem_cons.mpr ⟨lw_p20, List.forall_mem_cons.mpr ⟨lw_p21, List.forall_mem_cons.mpr ⟨lw_p22, List.forall_mem_cons.mpr ⟨lw_p23, List.forall_mem_cons.mpr ⟨lw_p24, List.forall_mem_cons.mpr ⟨lw_p25, List.forall_mem_cons.mpr ⟨lw_p26, List.forall_mem_cons.mpr ⟨lw_p27, List.forall_mem_cons.mpr ⟨lw_p28, List.forall_mem_cons.mpr ⟨lw_p29, List.forall_mem_cons.mpr ⟨lw_p30, List.forall_mem_cons.mpr ⟨lw_p31, fun _ h => absurd h List.not_mem_nil⟩⟩⟩⟩⟩⟩⟩⟩⟩⟩⟩⟩⟩⟩⟩⟩
theorem lw_p32 : lw_okq (⟨"PlayedLawsModel", "here", "()I"⟩, 30) := ⟨⟨by decide +kernel, by decide +kernel⟩, List.mem_of_getElem? (i := 966) (by decide +kernel), List.mem_of_getElem? (i := 1107) (by decide +kernel), List.mem_of_getElem? (i := 1108) (by decide +kernel)⟩
theorem lw_p33 : lw_okq (⟨"PlayedLawsModel", "readScene", "()V"⟩, 30) := ⟨⟨by decide +kernel, by decide +kernel⟩, List.mem_of_getElem? (i := 966) (by decide +kernel), List.mem_of_getElem? (i := 1111) (by decide +kernel), List.mem_of_getElem? (i := 1112) (by decide +kernel)⟩
theorem lw_p34 : lw_okq (⟨"PlayedLawsModel", "number", "(II)I"⟩, 30) := ⟨⟨by decide +kernel, by decide +kernel⟩, List.mem_of_getElem? (i := 966) (by decide +kernel), List.mem_of_getElem? (i := 1115) (by decide +kernel), List.mem_of_getElem? (i := 1116) (by decide +kernel)⟩
theorem lw_p35 : lw_okq (⟨"PlayedLawsModel", "isFigure", "()Z"⟩, 30) := ⟨⟨by decide +kernel, by decide +kernel⟩, List.mem_of_getElem? (i := 966) (by decide +kernel), List.mem_of_getElem? (i := 1119) (by decide +kernel), List.mem_of_getElem? (i := 1120) (by decide +kernel)⟩
theorem lw_p36 : lw_okq (⟨"PlayedLawsModel", "due", "(I)V"⟩, 30) := ⟨⟨by decide +kernel, by decide +kernel⟩, List.mem_of_getElem? (i := 966) (by decide +kernel), List.mem_of_getElem? (i := 1123) (by decide +kernel), List.mem_of_getElem? (i := 1124) (by decide +kernel)⟩
theorem lw_p37 : lw_okq (⟨"PlayedLawsModel", "readSeat", "()V"⟩, 30) := ⟨⟨by decide +kernel, by decide +kernel⟩, List.mem_of_getElem? (i := 966) (by decide +kernel), List.mem_of_getElem? (i := 1127) (by decide +kernel), List.mem_of_getElem? (i := 1128) (by decide +kernel)⟩
theorem lw_p38 : lw_okq (⟨"PlayedLawsModel", "readBill", "()V"⟩, 30) := ⟨⟨by decide +kernel, by decide +kernel⟩, List.mem_of_getElem? (i := 966) (by decide +kernel), List.mem_of_getElem? (i := 1131) (by decide +kernel), List.mem_of_getElem? (i := 1132) (by decide +kernel)⟩
theorem lw_p39 : lw_okq (⟨"PlayedLawsModel", "isScene", "(I)Z"⟩, 30) := ⟨⟨by decide +kernel, by decide +kernel⟩, List.mem_of_getElem? (i := 966) (by decide +kernel), List.mem_of_getElem? (i := 1143) (by decide +kernel), List.mem_of_getElem? (i := 1144) (by decide +kernel)⟩
theorem lw_p40 : lw_okq (⟨"PlayedLawsModel", "isSeat", "(I)Z"⟩, 30) := ⟨⟨by decide +kernel, by decide +kernel⟩, List.mem_of_getElem? (i := 966) (by decide +kernel), List.mem_of_getElem? (i := 1154) (by decide +kernel), List.mem_of_getElem? (i := 1155) (by decide +kernel)⟩
theorem lw_p41 : lw_okq (⟨"PlayedLawsModel", "placeIn", "([II)I"⟩, 30) := ⟨⟨by decide +kernel, by decide +kernel⟩, List.mem_of_getElem? (i := 966) (by decide +kernel), List.mem_of_getElem? (i := 1158) (by decide +kernel), List.mem_of_getElem? (i := 1159) (by decide +kernel)⟩
theorem lw_p42 : lw_okq (⟨"PlayedLawsModel", "go", "([I)I"⟩, 30) := ⟨⟨by decide +kernel, by decide +kernel⟩, List.mem_of_getElem? (i := 966) (by decide +kernel), List.mem_of_getElem? (i := 1166) (by decide +kernel), List.mem_of_getElem? (i := 1167) (by decide +kernel)⟩
theorem lw_p43 : lw_okq (⟨"PlayedLawsModel", "bore", "([III)V"⟩, 30) := ⟨⟨by decide +kernel, by decide +kernel⟩, List.mem_of_getElem? (i := 966) (by decide +kernel), List.mem_of_getElem? (i := 1170) (by decide +kernel), List.mem_of_getElem? (i := 1171) (by decide +kernel)⟩
theorem lw_p44 : lw_okq (⟨"PlayedLawsModel", "settle", "([III)V"⟩, 30) := ⟨⟨by decide +kernel, by decide +kernel⟩, List.mem_of_getElem? (i := 966) (by decide +kernel), List.mem_of_getElem? (i := 1174) (by decide +kernel), List.mem_of_getElem? (i := 1175) (by decide +kernel)⟩
theorem lw_p45 : lw_okq (⟨"PlayedLawsModel", "isGone", "([II)Z"⟩, 30) := ⟨⟨by decide +kernel, by decide +kernel⟩, List.mem_of_getElem? (i := 966) (by decide +kernel), List.mem_of_getElem? (i := 1178) (by decide +kernel), List.mem_of_getElem? (i := 1179) (by decide +kernel)⟩
theorem lw_p46 : lw_okq (⟨"PlayedLawsModel", "canLeave", "([II)Z"⟩, 30) := ⟨⟨by decide +kernel, by decide +kernel⟩, List.mem_of_getElem? (i := 966) (by decide +kernel), List.mem_of_getElem? (i := 1182) (by decide +kernel), List.mem_of_getElem? (i := 1183) (by decide +kernel)⟩
theorem lw_p47 : lw_okq (⟨"PlayedLawsModel", "doesPass", "([I)Z"⟩, 30) := ⟨⟨by decide +kernel, by decide +kernel⟩, List.mem_of_getElem? (i := 966) (by decide +kernel), List.mem_of_getElem? (i := 1190) (by decide +kernel), List.mem_of_getElem? (i := 1191) (by decide +kernel)⟩
def lw_privs_3 : List (MethodName × Nat) := [(⟨"PlayedLawsModel", "here", "()I"⟩, 30), (⟨"PlayedLawsModel", "readScene", "()V"⟩, 30), (⟨"PlayedLawsModel", "number", "(II)I"⟩, 30), (⟨"PlayedLawsModel", "isFigure", "()Z"⟩, 30), (⟨"PlayedLawsModel", "due", "(I)V"⟩, 30), (⟨"PlayedLawsModel", "readSeat", "()V"⟩, 30), (⟨"PlayedLawsModel", "readBill", "()V"⟩, 30), (⟨"PlayedLawsModel", "isScene", "(I)Z"⟩, 30), (⟨"PlayedLawsModel", "isSeat", "(I)Z"⟩, 30), (⟨"PlayedLawsModel", "placeIn", "([II)I"⟩, 30), (⟨"PlayedLawsModel", "go", "([I)I"⟩, 30), (⟨"PlayedLawsModel", "bore", "([III)V"⟩, 30), (⟨"PlayedLawsModel", "settle", "([III)V"⟩, 30), (⟨"PlayedLawsModel", "isGone", "([II)Z"⟩, 30), (⟨"PlayedLawsModel", "canLeave", "([II)Z"⟩, 30), (⟨"PlayedLawsModel", "doesPass", "([I)Z"⟩, 30)]
theorem lw_r3 : ∀ q ∈ lw_privs_3, lw_okq q := List.forall_mem_cons.mpr ⟨lw_p32, List.forall_mem_cons.mpr ⟨lw_p33, List.forall_mem_cons.mpr ⟨lw_p34, List.forall_mem_cons.mpr ⟨lw_p35, List.forall_mem_cons.mpr ⟨lw_p36, List.forall_mem_cons.mpr ⟨lw_p37, List.forall_mem_cons.mpr ⟨lw_p38, List.forall_mem_cons.mpr ⟨lw_p39, List.forall_mem_cons.mpr ⟨lw_p40, List.forall_mem_cons.mpr ⟨lw_p41, List.forall_mem_cons.mpr ⟨lw_p42, List.forall_mem_cons.mpr ⟨lw_p43, List.forall_mem_cons.mpr ⟨lw_p44, List.forall_mem_cons.mpr ⟨lw_p45, List.forall_mem_cons.mpr ⟨lw_p46, List.forall_mem_cons.mpr ⟨lw_p47, fun _ h => absurd h List.not_mem_nil⟩⟩⟩⟩⟩⟩⟩⟩⟩⟩⟩⟩⟩⟩⟩⟩
theorem lw_p48 : lw_okq (⟨"PlayedLawsModel", "know", "()V"⟩, 30) := ⟨⟨by decide +kernel, by decide +kernel⟩, List.mem_of_getElem? (i := 966) (by decide +kernel), List.mem_of_getElem? (i := 1198) (by decide +kernel), List.mem_of_getElem? (i := 1199) (by decide +kernel)⟩
theorem lw_p49 : lw_okq (⟨"PlayedLawsModel", "canPlay", "([I)Z"⟩, 30) := ⟨⟨by decide +kernel, by decide +kernel⟩, List.mem_of_getElem? (i := 966) (by decide +kernel), List.mem_of_getElem? (i := 1216) (by decide +kernel), List.mem_of_getElem? (i := 1217) (by decide +kernel)⟩
theorem lw_p50 : lw_okq (⟨"PlayedLawsModel", "claquesOf", "([I)I"⟩, 30) := ⟨⟨by decide +kernel, by decide +kernel⟩, List.mem_of_getElem? (i := 966) (by decide +kernel), List.mem_of_getElem? (i := 1220) (by decide +kernel), List.mem_of_getElem? (i := 1221) (by decide +kernel)⟩
theorem lw_p51 : lw_okq (⟨"PlayedLawsModel", "playOn", "([I)Z"⟩, 30) := ⟨⟨by decide +kernel, by decide +kernel⟩, List.mem_of_getElem? (i := 966) (by decide +kernel), List.mem_of_getElem? (i := 1224) (by decide +kernel), List.mem_of_getElem? (i := 1225) (by decide +kernel)⟩
theorem lw_p52 : lw_okq (⟨"PlayedLawsModel", "bind", "([I)V"⟩, 30) := ⟨⟨by decide +kernel, by decide +kernel⟩, List.mem_of_getElem? (i := 966) (by decide +kernel), List.mem_of_getElem? (i := 1228) (by decide +kernel), List.mem_of_getElem? (i := 1229) (by decide +kernel)⟩
theorem lw_p53 : lw_okq (⟨"PlayedLawsModel", "change", "([III)V"⟩, 30) := ⟨⟨by decide +kernel, by decide +kernel⟩, List.mem_of_getElem? (i := 966) (by decide +kernel), List.mem_of_getElem? (i := 1236) (by decide +kernel), List.mem_of_getElem? (i := 1237) (by decide +kernel)⟩
theorem lw_p54 : lw_okq (⟨"PlayedLawsModel", "take", "()V"⟩, 30) := ⟨⟨by decide +kernel, by decide +kernel⟩, List.mem_of_getElem? (i := 966) (by decide +kernel), List.mem_of_getElem? (i := 1258) (by decide +kernel), List.mem_of_getElem? (i := 1259) (by decide +kernel)⟩
theorem lw_p55 : lw_okq (⟨"PlayedLawsModel", "nextBill", "()Z"⟩, 30) := ⟨⟨by decide +kernel, by decide +kernel⟩, List.mem_of_getElem? (i := 966) (by decide +kernel), List.mem_of_getElem? (i := 1262) (by decide +kernel), List.mem_of_getElem? (i := 1263) (by decide +kernel)⟩
theorem lw_p56 : lw_okq (⟨"PlayedLawsModel", "minutesTried", "()I"⟩, 30) := ⟨⟨by decide +kernel, by decide +kernel⟩, List.mem_of_getElem? (i := 966) (by decide +kernel), List.mem_of_getElem? (i := 1266) (by decide +kernel), List.mem_of_getElem? (i := 1267) (by decide +kernel)⟩
theorem lw_p57 : lw_okq (⟨"PlayedLawsModel", "clausesTried", "()I"⟩, 30) := ⟨⟨by decide +kernel, by decide +kernel⟩, List.mem_of_getElem? (i := 966) (by decide +kernel), List.mem_of_getElem? (i := 1270) (by decide +kernel), List.mem_of_getElem? (i := 1271) (by decide +kernel)⟩
theorem lw_p58 : lw_okq (⟨"PlayedLawsModel", "nextRow", "()Z"⟩, 30) := ⟨⟨by decide +kernel, by decide +kernel⟩, List.mem_of_getElem? (i := 966) (by decide +kernel), List.mem_of_getElem? (i := 1278) (by decide +kernel), List.mem_of_getElem? (i := 1279) (by decide +kernel)⟩
theorem lw_p59 : lw_okq (⟨"PlayedLawsModel", "boundOf", "([I)I"⟩, 30) := ⟨⟨by decide +kernel, by decide +kernel⟩, List.mem_of_getElem? (i := 966) (by decide +kernel), List.mem_of_getElem? (i := 1301) (by decide +kernel), List.mem_of_getElem? (i := 1302) (by decide +kernel)⟩
theorem lw_p60 : lw_okq (⟨"PlayedLawsModel", "isSo", "(I)Z"⟩, 30) := ⟨⟨by decide +kernel, by decide +kernel⟩, List.mem_of_getElem? (i := 966) (by decide +kernel), List.mem_of_getElem? (i := 1317) (by decide +kernel), List.mem_of_getElem? (i := 1318) (by decide +kernel)⟩
theorem lw_p61 : lw_okq (⟨"PlayedLawsModel", "turn", "(I)I"⟩, 30) := ⟨⟨by decide +kernel, by decide +kernel⟩, List.mem_of_getElem? (i := 966) (by decide +kernel), List.mem_of_getElem? (i := 1332) (by decide +kernel), List.mem_of_getElem? (i := 1333) (by decide +kernel)⟩
def lw_privs_4 : List (MethodName × Nat) := [(⟨"PlayedLawsModel", "know", "()V"⟩, 30), (⟨"PlayedLawsModel", "canPlay", "([I)Z"⟩, 30), (⟨"PlayedLawsModel", "claquesOf", "([I)I"⟩, 30), (⟨"PlayedLawsModel", "playOn", "([I)Z"⟩, 30), (⟨"PlayedLawsModel", "bind", "([I)V"⟩, 30), (⟨"PlayedLawsModel", "change", "([III)V"⟩, 30), (⟨"PlayedLawsModel", "take", "()V"⟩, 30), (⟨"PlayedLawsModel", "nextBill", "()Z"⟩, 30), (⟨"PlayedLawsModel", "minutesTried", "()I"⟩, 30), (⟨"PlayedLawsModel", "clausesTried", "()I"⟩, 30), (⟨"PlayedLawsModel", "nextRow", "()Z"⟩, 30), (⟨"PlayedLawsModel", "boundOf", "([I)I"⟩, 30), (⟨"PlayedLawsModel", "isSo", "(I)Z"⟩, 30), (⟨"PlayedLawsModel", "turn", "(I)I"⟩, 30)]
theorem lw_r4 : ∀ q ∈ lw_privs_4, lw_okq q := List.forall_mem_cons.mpr ⟨lw_p48, List.forall_mem_cons.mpr ⟨lw_p49, List.forall_mem_cons.mpr ⟨lw_p50, List.forall_mem_cons.mpr ⟨lw_p51, List.forall_mem_cons.mpr ⟨lw_p52, List.forall_mem_cons.mpr ⟨lw_p53, List.forall_mem_cons.mpr ⟨lw_p54, List.forall_mem_cons.mpr ⟨lw_p55, List.forall_mem_cons.mpr ⟨lw_p56, List.forall_mem_cons.mpr ⟨lw_p57, List.forall_mem_cons.mpr ⟨lw_p58, List.forall_mem_cons.mpr ⟨lw_p59, List.forall_mem_cons.mpr ⟨lw_p60, List.forall_mem_cons.mpr ⟨lw_p61, fun _ h => absurd h List.not_mem_nil⟩⟩⟩⟩⟩⟩⟩⟩⟩⟩⟩⟩⟩⟩
def lw_privs : List (MethodName × Nat) := lw_privs_1 ++ (lw_privs_2 ++ (lw_privs_3 ++ (lw_privs_4)))
def lw_tbl : List Cond := k2_sels lw_privs ++ tables_1
theorem lw_privs_ok : ∀ q ∈ lw_privs, lw_okq q := by
  show ∀ q ∈ lw_privs_1 ++ (lw_privs_2 ++ (lw_privs_3 ++ (lw_privs_4))), lw_okq q
  exact List.forall_mem_append.mpr ⟨lw_r1, List.forall_mem_append.mpr ⟨lw_r2, List.forall_mem_append.mpr ⟨lw_r3, lw_r4⟩⟩⟩
-- ===== end of PART A; then your names; then what follows =====
end
section
/-! ===== BEGIN words of one list among another's, by their places ===== -/
theorem goodIn_r {big : List Cond} (ws : List Cond) (ps : List Nat) (hp : ws = ps.filterMap (fun i => big[i]?)) (h : ws.all goodWord = true) : GoodIn big ws := by
  intro w hw
  have h1 := List.all_eq_true.mp h w hw
  rw [hp] at hw
  obtain ⟨i, -, hi⟩ := List.mem_filterMap.mp hw
  have hm : w ∈ big := by first | exact List.mem_of_getElem? hi | exact List.getElem?_mem hi
  exact ⟨hm, good_of_word h1⟩
theorem goodIn_app {big a b : List Cond} (ha : GoodIn big a) (hb : GoodIn big b) : GoodIn big (a ++ b) := fun w h => (List.mem_append.mp h).elim (ha w) (hb w)
theorem goodIn_ca {big a b : List Cond} {c : Cond} (ha : GoodIn big (c :: a)) (hb : GoodIn big b) : GoodIn big (c :: (a ++ b)) := fun w h => (List.mem_cons.mp h).elim (fun e => ha w (List.mem_cons.mpr (Or.inl e))) (fun h => (List.mem_append.mp h).elim (fun h => ha w (List.mem_cons.mpr (Or.inr h))) (hb w))
theorem goodIn_sub {big ws : List Cond} (hm : ∀ w ∈ ws, w ∈ big) (h : ws.all goodWord = true) : GoodIn big ws := fun w hw => ⟨hm w hw, good_of_word (List.all_eq_true.mp h w hw)⟩
/-! ===== END ===== -/

/-! ===== BEGIN printed: names, fields, word lists, decode rows ===== -/
def RX0 : String := "PlayedLaws$Chances"
def TX0 : u_T := fun k => match k with
  | 0 => ("PlayedLaws$Chances", "trial", "LPlayedLaws$House;", true)
  | 1 => ("PlayedLaws$Chances", "night", "LPlayedLaws$Night;", true)
  | 2 => ("PlayedLaws$Chances", "above", "I", false)
  | _ => ("PlayedLaws$Chances", "below", "I", false)
def tyX0 : Nat → FieldType := fun k => match k with
  | 0 => .object "PlayedLaws$House"
  | 1 => .object "PlayedLaws$Night"
  | 2 => .int
  | _ => .int
abbrev wsX00 : List Cond := u_ws RX0 TX0 4
theorem nmX0 : ∀ a, a < 4 → ∀ b, b < 4 → a ≠ b → (TX0 a).2.1 ≠ (TX0 b).2.1 := by decide +kernel
theorem tyX0_ok : ∀ k, k < 4 → parseFieldDescriptor (TX0 k).2.2.1 = some (tyX0 k) := by decide +kernel
abbrev cX0_init : ByteArray := prog_2_method_1_code
def yX0_init : MethodName := ⟨RX0, "<init>", "()V"⟩
abbrev cX0_weigh : ByteArray := prog_2_method_2_code
def yX0_weigh : MethodName := ⟨RX0, "weigh", "(LPlayedLaws$House;I)V"⟩
abbrev cX0_weightOf : ByteArray := prog_2_method_3_code
def yX0_weightOf : MethodName := ⟨RX0, "weightOf", "(LPlayedLaws$House;II)I"⟩
abbrev cX0_canCough : ByteArray := prog_2_method_4_code
def yX0_canCough : MethodName := ⟨RX0, "canCough", "(LPlayedLaws$House;I)Z"⟩
abbrev cX0_commonDivisor : ByteArray := prog_2_method_5_code
def yX0_commonDivisor : MethodName := ⟨RX0, "commonDivisor", "(II)I"⟩
abbrev cX0_playSeason : ByteArray := prog_2_method_6_code
def yX0_playSeason : MethodName := ⟨RX0, "playSeason", "(LPlayedLaws$House;II)V"⟩
abbrev cX0_takeDraw : ByteArray := prog_2_method_7_code
def yX0_takeDraw : MethodName := ⟨RX0, "takeDraw", "(I)V"⟩
def RX1 : String := "PlayedLaws$House"
def TX1 : u_T := fun k => match k with
  | 0 => ("PlayedLaws$House", "sceneKinds", "LPlayedLaws$Row;", true)
  | 1 => ("PlayedLaws$House", "minutes", "LPlayedLaws$Row;", true)
  | 2 => ("PlayedLaws$House", "clauses", "LPlayedLaws$Row;", true)
  | 3 => ("PlayedLaws$House", "shown", "LPlayedLaws$Row;", true)
  | 4 => ("PlayedLaws$House", "bill", "LPlayedLaws$Row;", true)
  | 5 => ("PlayedLaws$House", "seatKinds", "LPlayedLaws$Row;", true)
  | 6 => ("PlayedLaws$House", "tastes", "LPlayedLaws$Row;", true)
  | 7 => ("PlayedLaws$House", "patiences", "LPlayedLaws$Row;", true)
  | 8 => ("PlayedLaws$House", "bound", "LPlayedLaws$Row;", true)
  | 9 => ("PlayedLaws$House", "line", "LPlayedLaws$Row;", true)
  | 10 => ("PlayedLaws$House", "scenes", "I", false)
  | 11 => ("PlayedLaws$House", "seats", "I", false)
  | 12 => ("PlayedLaws$House", "billed", "I", false)
  | 13 => ("PlayedLaws$House", "till", "I", false)
  | 14 => ("PlayedLaws$House", "nights", "I", false)
  | _ => ("PlayedLaws$House", "passed", "I", false)
def tyX1 : Nat → FieldType := fun k => match k with
  | 0 => .object "PlayedLaws$Row"
  | 1 => .object "PlayedLaws$Row"
  | 2 => .object "PlayedLaws$Row"
  | 3 => .object "PlayedLaws$Row"
  | 4 => .object "PlayedLaws$Row"
  | 5 => .object "PlayedLaws$Row"
  | 6 => .object "PlayedLaws$Row"
  | 7 => .object "PlayedLaws$Row"
  | 8 => .object "PlayedLaws$Row"
  | 9 => .object "PlayedLaws$Row"
  | 10 => .int
  | 11 => .int
  | 12 => .int
  | 13 => .int
  | 14 => .int
  | _ => .int
abbrev wsX10 : List Cond := u_ws RX1 TX1 16
theorem nmX1 : ∀ a, a < 16 → ∀ b, b < 16 → a ≠ b → (TX1 a).2.1 ≠ (TX1 b).2.1 := by decide +kernel
theorem tyX1_ok : ∀ k, k < 16 → parseFieldDescriptor (TX1 k).2.2.1 = some (tyX1 k) := by decide +kernel
abbrev cX1_init : ByteArray := prog_3_method_1_code
def yX1_init : MethodName := ⟨RX1, "<init>", "()V"⟩
abbrev cX1_empty : ByteArray := prog_3_method_2_code
def yX1_empty : MethodName := ⟨RX1, "empty", "()V"⟩
abbrev cX1_copy : ByteArray := prog_3_method_3_code
def yX1_copy : MethodName := ⟨RX1, "copy", "(LPlayedLaws$House;)V"⟩
abbrev cX1_tellScene : ByteArray := prog_3_method_4_code
def yX1_tellScene : MethodName := ⟨RX1, "tellScene", "(III)Z"⟩
abbrev cX1_tellSeat : ByteArray := prog_3_method_5_code
def yX1_tellSeat : MethodName := ⟨RX1, "tellSeat", "(III)Z"⟩
abbrev cX1_isScene : ByteArray := prog_3_method_6_code
def yX1_isScene : MethodName := ⟨RX1, "isScene", "(I)Z"⟩
abbrev cX1_isSeat : ByteArray := prog_3_method_7_code
def yX1_isSeat : MethodName := ⟨RX1, "isSeat", "(I)Z"⟩
abbrev cX1_placeOnBill : ByteArray := prog_3_method_8_code
def yX1_placeOnBill : MethodName := ⟨RX1, "placeOnBill", "(I)I"⟩
abbrev cX1_placeInLine : ByteArray := prog_3_method_9_code
def yX1_placeInLine : MethodName := ⟨RX1, "placeInLine", "(I)I"⟩
abbrev cX1_isBilled : ByteArray := prog_3_method_10_code
def yX1_isBilled : MethodName := ⟨RX1, "isBilled", "(I)Z"⟩
abbrev cX1_mount : ByteArray := prog_3_method_11_code
def yX1_mount : MethodName := ⟨RX1, "mount", "(II)V"⟩
abbrev cX1_strike : ByteArray := prog_3_method_12_code
def yX1_strike : MethodName := ⟨RX1, "strike", "(I)V"⟩
abbrev cX1_trade : ByteArray := prog_3_method_13_code
def yX1_trade : MethodName := ⟨RX1, "trade", "(II)V"⟩
abbrev cX1_canEngage : ByteArray := prog_3_method_14_code
def yX1_canEngage : MethodName := ⟨RX1, "canEngage", "(I)Z"⟩
abbrev cX1_engage : ByteArray := prog_3_method_15_code
def yX1_engage : MethodName := ⟨RX1, "engage", "(I)V"⟩
abbrev cX1_claqueurs : ByteArray := prog_3_method_16_code
def yX1_claqueurs : MethodName := ⟨RX1, "claqueurs", "()I"⟩
abbrev cX1_bindings : ByteArray := prog_3_method_17_code
def yX1_bindings : MethodName := ⟨RX1, "bindings", "()I"⟩
abbrev cX1_clauseBit : ByteArray := prog_3_method_18_code
def yX1_clauseBit : MethodName := ⟨RX1, "clauseBit", "(I)I"⟩
abbrev cX1_canOpen : ByteArray := prog_3_method_19_code
def yX1_canOpen : MethodName := ⟨RX1, "canOpen", "()Z"⟩
abbrev cX1_settle : ByteArray := prog_3_method_20_code
def yX1_settle : MethodName := ⟨RX1, "settle", "(LPlayedLaws$Night;)V"⟩
abbrev cX1_tire : ByteArray := prog_3_method_21_code
def yX1_tire : MethodName := ⟨RX1, "tire", "()V"⟩
abbrev cX1_bindAll : ByteArray := prog_3_method_22_code
def yX1_bindAll : MethodName := ⟨RX1, "bindAll", "(LPlayedLaws$Night;)V"⟩
abbrev cX1_bind : ByteArray := prog_3_method_23_code
def yX1_bind : MethodName := ⟨RX1, "bind", "(III)V"⟩
def RX2 : String := "PlayedLaws$Houses"
def TX2 : u_T := fun k => match k with
  | 0 => ("PlayedLaws$Houses", "houses", "[LPlayedLaws$House;", true)
  | 1 => ("PlayedLaws$Houses", "top", "I", false)
  | _ => ("PlayedLaws$Houses", "held", "I", false)
def tyX2 : Nat → FieldType := fun k => match k with
  | 0 => .array (.object "PlayedLaws$House")
  | 1 => .int
  | _ => .int
abbrev wsX20 : List Cond := u_ws RX2 TX2 3
theorem nmX2 : ∀ a, a < 3 → ∀ b, b < 3 → a ≠ b → (TX2 a).2.1 ≠ (TX2 b).2.1 := by decide +kernel
theorem tyX2_ok : ∀ k, k < 3 → parseFieldDescriptor (TX2 k).2.2.1 = some (tyX2 k) := by decide +kernel
abbrev cX2_init : ByteArray := prog_4_method_1_code
def yX2_init : MethodName := ⟨RX2, "<init>", "(I)V"⟩
abbrev cX2_push : ByteArray := prog_4_method_2_code
def yX2_push : MethodName := ⟨RX2, "push", "(LPlayedLaws$House;)V"⟩
abbrev cX2_pop : ByteArray := prog_4_method_3_code
def yX2_pop : MethodName := ⟨RX2, "pop", "(LPlayedLaws$House;)V"⟩
def RX3 : String := "PlayedLaws$Lineup"
def TX3 : u_T := fun k => match k with
  | 0 => ("PlayedLaws$Lineup", "trial", "LPlayedLaws$House;", true)
  | 1 => ("PlayedLaws$Lineup", "night", "LPlayedLaws$Night;", true)
  | 2 => ("PlayedLaws$Lineup", "row", "LPlayedLaws$Row;", true)
  | 3 => ("PlayedLaws$Lineup", "staying", "I", false)
  | _ => ("PlayedLaws$Lineup", "foundStamp", "I", false)
def tyX3 : Nat → FieldType := fun k => match k with
  | 0 => .object "PlayedLaws$House"
  | 1 => .object "PlayedLaws$Night"
  | 2 => .object "PlayedLaws$Row"
  | 3 => .int
  | _ => .int
abbrev wsX30 : List Cond := u_ws RX3 TX3 5
theorem nmX3 : ∀ a, a < 5 → ∀ b, b < 5 → a ≠ b → (TX3 a).2.1 ≠ (TX3 b).2.1 := by decide +kernel
theorem tyX3_ok : ∀ k, k < 5 → parseFieldDescriptor (TX3 k).2.2.1 = some (tyX3 k) := by decide +kernel
abbrev cX3_init : ByteArray := prog_5_method_1_code
def yX3_init : MethodName := ⟨RX3, "<init>", "()V"⟩
abbrev cX3_find : ByteArray := prog_5_method_2_code
def yX3_find : MethodName := ⟨RX3, "find", "(LPlayedLaws$House;I)V"⟩
abbrev cX3_patientAlone : ByteArray := prog_5_method_3_code
def yX3_patientAlone : MethodName := ⟨RX3, "patientAlone", "(LPlayedLaws$House;)I"⟩
abbrev cX3_tryLine : ByteArray := prog_5_method_4_code
def yX3_tryLine : MethodName := ⟨RX3, "tryLine", "()V"⟩
abbrev cX3_nextLine : ByteArray := prog_5_method_5_code
def yX3_nextLine : MethodName := ⟨RX3, "nextLine", "()Z"⟩
def RX4 : String := "PlayedLaws$Night"
def TX4 : u_T := fun k => match k with
  | 0 => ("PlayedLaws$Night", "boredom", "LPlayedLaws$Row;", true)
  | 1 => ("PlayedLaws$Night", "left", "LPlayedLaws$Row;", true)
  | 2 => ("PlayedLaws$Night", "asleep", "LPlayedLaws$Row;", true)
  | 3 => ("PlayedLaws$Night", "seen", "LPlayedLaws$Row;", true)
  | 4 => ("PlayedLaws$Night", "emptyPlaces", "LPlayedLaws$Row;", true)
  | _ => ("PlayedLaws$Night", "gone", "I", false)
def tyX4 : Nat → FieldType := fun k => match k with
  | 0 => .object "PlayedLaws$Row"
  | 1 => .object "PlayedLaws$Row"
  | 2 => .object "PlayedLaws$Row"
  | 3 => .object "PlayedLaws$Row"
  | 4 => .object "PlayedLaws$Row"
  | _ => .int
abbrev wsX40 : List Cond := u_ws RX4 TX4 6
theorem nmX4 : ∀ a, a < 6 → ∀ b, b < 6 → a ≠ b → (TX4 a).2.1 ≠ (TX4 b).2.1 := by decide +kernel
theorem tyX4_ok : ∀ k, k < 6 → parseFieldDescriptor (TX4 k).2.2.1 = some (tyX4 k) := by decide +kernel
abbrev cX4_init : ByteArray := prog_6_method_1_code
def yX4_init : MethodName := ⟨RX4, "<init>", "()V"⟩
abbrev cX4_begin : ByteArray := prog_6_method_2_code
def yX4_begin : MethodName := ⟨RX4, "begin", "()V"⟩
abbrev cX4_copy : ByteArray := prog_6_method_3_code
def yX4_copy : MethodName := ⟨RX4, "copy", "(LPlayedLaws$Night;)V"⟩
abbrev cX4_unfold : ByteArray := prog_6_method_4_code
def yX4_unfold : MethodName := ⟨RX4, "unfold", "(LPlayedLaws$House;I)V"⟩
abbrev cX4_stage : ByteArray := prog_6_method_5_code
def yX4_stage : MethodName := ⟨RX4, "stage", "(LPlayedLaws$House;II)V"⟩
abbrev cX4_carries : ByteArray := prog_6_method_6_code
def yX4_carries : MethodName := ⟨RX4, "carries", "(LPlayedLaws$House;)Z"⟩
abbrev cX4_watch : ByteArray := prog_6_method_7_code
def yX4_watch : MethodName := ⟨RX4, "watch", "(LPlayedLaws$House;I)V"⟩
abbrev cX4_leave : ByteArray := prog_6_method_8_code
def yX4_leave : MethodName := ⟨RX4, "leave", "(LPlayedLaws$House;II)V"⟩
abbrev cX4_bore : ByteArray := prog_6_method_9_code
def yX4_bore : MethodName := ⟨RX4, "bore", "(LPlayedLaws$House;II)V"⟩
abbrev cX4_isDrivenOut : ByteArray := prog_6_method_10_code
def yX4_isDrivenOut : MethodName := ⟨RX4, "isDrivenOut", "(LPlayedLaws$House;I)Z"⟩
def RX5 : String := "PlayedLaws$Outlook"
def TX5 : u_T := fun k => match k with
  | 0 => ("PlayedLaws$Outlook", "trial", "LPlayedLaws$House;", true)
  | 1 => ("PlayedLaws$Outlook", "night", "LPlayedLaws$Night;", true)
  | 2 => ("PlayedLaws$Outlook", "addition", "I", false)
  | _ => ("PlayedLaws$Outlook", "binding", "I", false)
def tyX5 : Nat → FieldType := fun k => match k with
  | 0 => .object "PlayedLaws$House"
  | 1 => .object "PlayedLaws$Night"
  | 2 => .int
  | _ => .int
abbrev wsX50 : List Cond := u_ws RX5 TX5 4
theorem nmX5 : ∀ a, a < 4 → ∀ b, b < 4 → a ≠ b → (TX5 a).2.1 ≠ (TX5 b).2.1 := by decide +kernel
theorem tyX5_ok : ∀ k, k < 4 → parseFieldDescriptor (TX5 k).2.2.1 = some (tyX5 k) := by decide +kernel
abbrev cX5_init : ByteArray := prog_7_method_1_code
def yX5_init : MethodName := ⟨RX5, "<init>", "()V"⟩
abbrev cX5_fewestClaques : ByteArray := prog_7_method_2_code
def yX5_fewestClaques : MethodName := ⟨RX5, "fewestClaques", "(LPlayedLaws$House;)I"⟩
abbrev cX5_fatalCut : ByteArray := prog_7_method_3_code
def yX5_fatalCut : MethodName := ⟨RX5, "fatalCut", "(LPlayedLaws$House;)I"⟩
abbrev cX5_nightsAhead : ByteArray := prog_7_method_4_code
def yX5_nightsAhead : MethodName := ⟨RX5, "nightsAhead", "(LPlayedLaws$House;)I"⟩
abbrev cX5_findAddition : ByteArray := prog_7_method_5_code
def yX5_findAddition : MethodName := ⟨RX5, "findAddition", "(LPlayedLaws$House;)V"⟩
abbrev cX5_tryAddition : ByteArray := prog_7_method_6_code
def yX5_tryAddition : MethodName := ⟨RX5, "tryAddition", "(LPlayedLaws$House;II)V"⟩
abbrev cX5_fittingPatiences : ByteArray := prog_7_method_7_code
def yX5_fittingPatiences : MethodName := ⟨RX5, "fittingPatiences", "(LPlayedLaws$House;LPlayedLaws$Sights;I)I"⟩
abbrev cX5_fittingTastes : ByteArray := prog_7_method_8_code
def yX5_fittingTastes : MethodName := ⟨RX5, "fittingTastes", "(LPlayedLaws$House;LPlayedLaws$Sights;I)I"⟩
abbrev cX5_trialAgrees : ByteArray := prog_7_method_9_code
def yX5_trialAgrees : MethodName := ⟨RX5, "trialAgrees", "(LPlayedLaws$Sights;I)Z"⟩
abbrev cX5_trialPasses : ByteArray := prog_7_method_10_code
def yX5_trialPasses : MethodName := ⟨RX5, "trialPasses", "()Z"⟩
def RX6 : String := "PlayedLaws$Row"
def TX6 : u_T := fun k => match k with
  | _ => ("PlayedLaws$Row", "cells", "[I", true)
def tyX6 : Nat → FieldType := fun k => match k with
  | _ => .array .int
abbrev wsX60 : List Cond := u_ws RX6 TX6 1
theorem nmX6 : ∀ a, a < 1 → ∀ b, b < 1 → a ≠ b → (TX6 a).2.1 ≠ (TX6 b).2.1 := by decide +kernel
theorem tyX6_ok : ∀ k, k < 1 → parseFieldDescriptor (TX6 k).2.2.1 = some (tyX6 k) := by decide +kernel
abbrev cX6_init : ByteArray := prog_8_method_1_code
def yX6_init : MethodName := ⟨RX6, "<init>", "(I)V"⟩
abbrev cX6_at : ByteArray := prog_8_method_2_code
def yX6_at : MethodName := ⟨RX6, "at", "(I)I"⟩
abbrev cX6_put : ByteArray := prog_8_method_3_code
def yX6_put : MethodName := ⟨RX6, "put", "(II)V"⟩
abbrev cX6_placeOf : ByteArray := prog_8_method_4_code
def yX6_placeOf : MethodName := ⟨RX6, "placeOf", "(II)I"⟩
abbrev cX6_trade : ByteArray := prog_8_method_5_code
def yX6_trade : MethodName := ⟨RX6, "trade", "(II)V"⟩
abbrev cX6_insert : ByteArray := prog_8_method_6_code
def yX6_insert : MethodName := ⟨RX6, "insert", "(III)V"⟩
abbrev cX6_remove : ByteArray := prog_8_method_7_code
def yX6_remove : MethodName := ⟨RX6, "remove", "(II)V"⟩
abbrev cX6_clear : ByteArray := prog_8_method_8_code
def yX6_clear : MethodName := ⟨RX6, "clear", "()V"⟩
abbrev cX6_numberThrough : ByteArray := prog_8_method_9_code
def yX6_numberThrough : MethodName := ⟨RX6, "numberThrough", "()V"⟩
abbrev cX6_copy : ByteArray := prog_8_method_10_code
def yX6_copy : MethodName := ⟨RX6, "copy", "(LPlayedLaws$Row;)V"⟩
def RX7 : String := "PlayedLaws$Shortest"
def TX7 : u_T := fun k => match k with
  | 0 => ("PlayedLaws$Shortest", "trial", "LPlayedLaws$House;", true)
  | 1 => ("PlayedLaws$Shortest", "evenings", "[LPlayedLaws$Night;", true)
  | 2 => ("PlayedLaws$Shortest", "row", "LPlayedLaws$Row;", true)
  | 3 => ("PlayedLaws$Shortest", "length", "I", false)
  | 4 => ("PlayedLaws$Shortest", "minutes", "I", false)
  | 5 => ("PlayedLaws$Shortest", "foundSet", "I", false)
  | _ => ("PlayedLaws$Shortest", "foundStamp", "I", false)
def tyX7 : Nat → FieldType := fun k => match k with
  | 0 => .object "PlayedLaws$House"
  | 1 => .array (.object "PlayedLaws$Night")
  | 2 => .object "PlayedLaws$Row"
  | 3 => .int
  | 4 => .int
  | 5 => .int
  | _ => .int
abbrev wsX70 : List Cond := u_ws RX7 TX7 7
theorem nmX7 : ∀ a, a < 7 → ∀ b, b < 7 → a ≠ b → (TX7 a).2.1 ≠ (TX7 b).2.1 := by decide +kernel
theorem tyX7_ok : ∀ k, k < 7 → parseFieldDescriptor (TX7 k).2.2.1 = some (tyX7 k) := by decide +kernel
abbrev cX7_init : ByteArray := prog_9_method_1_code
def yX7_init : MethodName := ⟨RX7, "<init>", "()V"⟩
abbrev cX7_find : ByteArray := prog_9_method_2_code
def yX7_find : MethodName := ⟨RX7, "find", "(LPlayedLaws$House;II)V"⟩
abbrev cX7_extend : ByteArray := prog_9_method_3_code
def yX7_extend : MethodName := ⟨RX7, "extend", "(LPlayedLaws$Shortest;IIII)V"⟩
abbrev cX7_endures : ByteArray := prog_9_method_4_code
def yX7_endures : MethodName := ⟨RX7, "endures", "(II)Z"⟩
abbrev cX7_evening : ByteArray := prog_9_method_5_code
def yX7_evening : MethodName := ⟨RX7, "evening", "(I)LPlayedLaws$Night;"⟩
abbrev cX7_bindable : ByteArray := prog_9_method_6_code
def yX7_bindable : MethodName := ⟨RX7, "bindable", "(I)I"⟩
abbrev cX7_note : ByteArray := prog_9_method_7_code
def yX7_note : MethodName := ⟨RX7, "note", "(II)V"⟩
def RX8 : String := "PlayedLaws$Sights"
def TX8 : u_T := fun k => match k with
  | 0 => ("PlayedLaws$Sights", "seats", "LPlayedLaws$Row;", true)
  | 1 => ("PlayedLaws$Sights", "behind", "LPlayedLaws$Row;", true)
  | _ => ("PlayedLaws$Sights", "noted", "I", false)
def tyX8 : Nat → FieldType := fun k => match k with
  | 0 => .object "PlayedLaws$Row"
  | 1 => .object "PlayedLaws$Row"
  | _ => .int
abbrev wsX80 : List Cond := u_ws RX8 TX8 3
theorem nmX8 : ∀ a, a < 3 → ∀ b, b < 3 → a ≠ b → (TX8 a).2.1 ≠ (TX8 b).2.1 := by decide +kernel
theorem tyX8_ok : ∀ k, k < 3 → parseFieldDescriptor (TX8 k).2.2.1 = some (tyX8 k) := by decide +kernel
abbrev cX8_init : ByteArray := prog_10_method_1_code
def yX8_init : MethodName := ⟨RX8, "<init>", "()V"⟩
abbrev cX8_note : ByteArray := prog_10_method_2_code
def yX8_note : MethodName := ⟨RX8, "note", "(II)Z"⟩
abbrev cX8_agree : ByteArray := prog_10_method_3_code
def yX8_agree : MethodName := ⟨RX8, "agree", "(II)Z"⟩
def RX9 : String := "PlayedLaws$Text"
def TX9 : u_T := fun k => match k with
  | 0 => ("PlayedLaws$Text", "letters", "LPlayedLaws$Row;", true)
  | 1 => ("PlayedLaws$Text", "told", "LPlayedLaws$House;", true)
  | 2 => ("PlayedLaws$Text", "length", "I", false)
  | _ => ("PlayedLaws$Text", "spot", "I", false)
def tyX9 : Nat → FieldType := fun k => match k with
  | 0 => .object "PlayedLaws$Row"
  | 1 => .object "PlayedLaws$House"
  | 2 => .int
  | _ => .int
abbrev wsX90 : List Cond := u_ws RX9 TX9 4
theorem nmX9 : ∀ a, a < 4 → ∀ b, b < 4 → a ≠ b → (TX9 a).2.1 ≠ (TX9 b).2.1 := by decide +kernel
theorem tyX9_ok : ∀ k, k < 4 → parseFieldDescriptor (TX9 k).2.2.1 = some (tyX9 k) := by decide +kernel
abbrev cX9_init : ByteArray := prog_11_method_1_code
def yX9_init : MethodName := ⟨RX9, "<init>", "()V"⟩
abbrev cX9_append : ByteArray := prog_11_method_2_code
def yX9_append : MethodName := ⟨RX9, "append", "(I)Z"⟩
abbrev cX9_read : ByteArray := prog_11_method_3_code
def yX9_read : MethodName := ⟨RX9, "read", "()I"⟩
abbrev cX9_readItem : ByteArray := prog_11_method_4_code
def yX9_readItem : MethodName := ⟨RX9, "readItem", "()Z"⟩
abbrev cX9_readScene : ByteArray := prog_11_method_5_code
def yX9_readScene : MethodName := ⟨RX9, "readScene", "()Z"⟩
abbrev cX9_readSeat : ByteArray := prog_11_method_6_code
def yX9_readSeat : MethodName := ⟨RX9, "readSeat", "()Z"⟩
abbrev cX9_readBill : ByteArray := prog_11_method_7_code
def yX9_readBill : MethodName := ⟨RX9, "readBill", "()Z"⟩
abbrev cX9_readTill : ByteArray := prog_11_method_8_code
def yX9_readTill : MethodName := ⟨RX9, "readTill", "()Z"⟩
abbrev cX9_number : ByteArray := prog_11_method_9_code
def yX9_number : MethodName := ⟨RX9, "number", "(III)I"⟩
abbrev cX9_next : ByteArray := prog_11_method_10_code
def yX9_next : MethodName := ⟨RX9, "next", "()I"⟩
abbrev cX9_figure : ByteArray := prog_11_method_11_code
def yX9_figure : MethodName := ⟨RX9, "figure", "(I)I"⟩
def RX10 : String := "PlayedLaws"
def TX10 : u_T := fun k => match k with
  | 0 => ("PlayedLaws", "text", "LPlayedLaws$Text;", true)
  | 1 => ("PlayedLaws", "house", "LPlayedLaws$House;", true)
  | 2 => ("PlayedLaws", "past", "LPlayedLaws$Houses;", true)
  | 3 => ("PlayedLaws", "kept", "LPlayedLaws$Houses;", true)
  | 4 => ("PlayedLaws", "sights", "LPlayedLaws$Sights;", true)
  | 5 => ("PlayedLaws", "night", "LPlayedLaws$Night;", true)
  | 6 => ("PlayedLaws", "shortest", "LPlayedLaws$Shortest;", true)
  | 7 => ("PlayedLaws", "lineup", "LPlayedLaws$Lineup;", true)
  | 8 => ("PlayedLaws", "outlook", "LPlayedLaws$Outlook;", true)
  | 9 => ("PlayedLaws", "chances", "LPlayedLaws$Chances;", true)
  | _ => ("PlayedLaws", "stamp", "I", false)
def tyX10 : Nat → FieldType := fun k => match k with
  | 0 => .object "PlayedLaws$Text"
  | 1 => .object "PlayedLaws$House"
  | 2 => .object "PlayedLaws$Houses"
  | 3 => .object "PlayedLaws$Houses"
  | 4 => .object "PlayedLaws$Sights"
  | 5 => .object "PlayedLaws$Night"
  | 6 => .object "PlayedLaws$Shortest"
  | 7 => .object "PlayedLaws$Lineup"
  | 8 => .object "PlayedLaws$Outlook"
  | 9 => .object "PlayedLaws$Chances"
  | _ => .int
abbrev wsX100 : List Cond := u_ws RX10 TX10 11
theorem nmX10 : ∀ a, a < 11 → ∀ b, b < 11 → a ≠ b → (TX10 a).2.1 ≠ (TX10 b).2.1 := by decide +kernel
theorem tyX10_ok : ∀ k, k < 11 → parseFieldDescriptor (TX10 k).2.2.1 = some (tyX10 k) := by decide +kernel
abbrev cX10_init : ByteArray := prog_1_method_1_code
def yX10_init : MethodName := ⟨RX10, "<init>", "()V"⟩
abbrev cX10_write : ByteArray := prog_1_method_2_code
def yX10_write : MethodName := ⟨RX10, "write", "(I)I"⟩
abbrev cX10_wipe : ByteArray := prog_1_method_3_code
def yX10_wipe : MethodName := ⟨RX10, "wipe", "()I"⟩
abbrev cX10_fault : ByteArray := prog_1_method_4_code
def yX10_fault : MethodName := ⟨RX10, "fault", "()I"⟩
abbrev cX10_lay : ByteArray := prog_1_method_5_code
def yX10_lay : MethodName := ⟨RX10, "lay", "()I"⟩
abbrev cX10_scene : ByteArray := prog_1_method_6_code
def yX10_scene : MethodName := ⟨RX10, "scene", "(II)I"⟩
abbrev cX10_seat : ByteArray := prog_1_method_7_code
def yX10_seat : MethodName := ⟨RX10, "seat", "(II)I"⟩
abbrev cX10_tonight : ByteArray := prog_1_method_8_code
def yX10_tonight : MethodName := ⟨RX10, "tonight", "(II)I"⟩
abbrev cX10_passes : ByteArray := prog_1_method_9_code
def yX10_passes : MethodName := ⟨RX10, "passes", "(I)I"⟩
abbrev cX10_add : ByteArray := prog_1_method_10_code
def yX10_add : MethodName := ⟨RX10, "add", "(I)I"⟩
abbrev cX10_cut : ByteArray := prog_1_method_11_code
def yX10_cut : MethodName := ⟨RX10, "cut", "(I)I"⟩
abbrev cX10_play : ByteArray := prog_1_method_12_code
def yX10_play : MethodName := ⟨RX10, "play", "()I"⟩
abbrev cX10_swap : ByteArray := prog_1_method_13_code
def yX10_swap : MethodName := ⟨RX10, "swap", "(II)I"⟩
abbrev cX10_hire : ByteArray := prog_1_method_14_code
def yX10_hire : MethodName := ⟨RX10, "hire", "(I)I"⟩
abbrev cX10_undo : ByteArray := prog_1_method_15_code
def yX10_undo : MethodName := ⟨RX10, "undo", "()I"⟩
abbrev cX10_soonest : ByteArray := prog_1_method_16_code
def yX10_soonest : MethodName := ⟨RX10, "soonest", "(II)I"⟩
abbrev cX10_seating : ByteArray := prog_1_method_17_code
def yX10_seating : MethodName := ⟨RX10, "seating", "(I)I"⟩
abbrev cX10_claques : ByteArray := prog_1_method_18_code
def yX10_claques : MethodName := ⟨RX10, "claques", "(I)I"⟩
abbrev cX10_falls : ByteArray := prog_1_method_19_code
def yX10_falls : MethodName := ⟨RX10, "falls", "()I"⟩
abbrev cX10_run : ByteArray := prog_1_method_20_code
def yX10_run : MethodName := ⟨RX10, "run", "()I"⟩
abbrev cX10_most : ByteArray := prog_1_method_21_code
def yX10_most : MethodName := ⟨RX10, "most", "(I)I"⟩
abbrev cX10_see : ByteArray := prog_1_method_22_code
def yX10_see : MethodName := ⟨RX10, "see", "(II)I"⟩
abbrev cX10_forget : ByteArray := prog_1_method_23_code
def yX10_forget : MethodName := ⟨RX10, "forget", "()I"⟩
abbrev cX10_fits : ByteArray := prog_1_method_24_code
def yX10_fits : MethodName := ⟨RX10, "fits", "(II)I"⟩
abbrev cX10_coughs : ByteArray := prog_1_method_25_code
def yX10_coughs : MethodName := ⟨RX10, "coughs", "(II)I"⟩
abbrev cX10_season : ByteArray := prog_1_method_26_code
def yX10_season : MethodName := ⟨RX10, "season", "(III)I"⟩
abbrev cX10_keep : ByteArray := prog_1_method_27_code
def yX10_keep : MethodName := ⟨RX10, "keep", "()I"⟩
abbrev cX10_back : ByteArray := prog_1_method_28_code
def yX10_back : MethodName := ⟨RX10, "back", "()I"⟩
abbrev cX10_count : ByteArray := prog_1_method_29_code
def yX10_count : MethodName := ⟨RX10, "count", "(I)I"⟩
abbrev cX10_open : ByteArray := prog_1_method_30_code
def yX10_open : MethodName := ⟨RX10, "open", "(LPlayedLaws$House;)V"⟩
abbrev cX10_remember : ByteArray := prog_1_method_31_code
def yX10_remember : MethodName := ⟨RX10, "remember", "()V"⟩
abbrev cX10_within : ByteArray := prog_1_method_32_code
def yX10_within : MethodName := ⟨RX10, "within", "(III)Z"⟩
abbrev cX10_isIn : ByteArray := prog_1_method_33_code
def yX10_isIn : MethodName := ⟨RX10, "isIn", "(II)Z"⟩
def RX11 : String := "PlayedLawsModel"
def TX11 : u_T := fun k => match k with
  | 0 => ("PlayedLawsModel", "text", "[B", true)
  | 1 => ("PlayedLawsModel", "typed", "I", false)
  | 2 => ("PlayedLawsModel", "scenes", "[I", true)
  | 3 => ("PlayedLawsModel", "kind", "[I", true)
  | 4 => ("PlayedLawsModel", "minutes", "[I", true)
  | 5 => ("PlayedLawsModel", "clause", "[I", true)
  | 6 => ("PlayedLawsModel", "seats", "[I", true)
  | 7 => ("PlayedLawsModel", "draftSort", "[I", true)
  | 8 => ("PlayedLawsModel", "taste", "[I", true)
  | 9 => ("PlayedLawsModel", "patience", "[I", true)
  | 10 => ("PlayedLawsModel", "draftBill", "[I", true)
  | 11 => ("PlayedLawsModel", "draftLong", "I", false)
  | 12 => ("PlayedLawsModel", "draftTill", "I", false)
  | 13 => ("PlayedLawsModel", "at", "I", false)
  | 14 => ("PlayedLawsModel", "isWrong", "Z", false)
  | 15 => ("PlayedLawsModel", "now", "[I", true)
  | 16 => ("PlayedLawsModel", "before", "[I", true)
  | 17 => ("PlayedLawsModel", "many", "I", false)
  | 18 => ("PlayedLawsModel", "store", "[I", true)
  | 19 => ("PlayedLawsModel", "kept", "I", false)
  | 20 => ("PlayedLawsModel", "tried", "[I", true)
  | 21 => ("PlayedLawsModel", "leaves", "[I", true)
  | 22 => ("PlayedLawsModel", "boredom", "[I", true)
  | 23 => ("PlayedLawsModel", "isAsleep", "[Z", true)
  | 24 => ("PlayedLawsModel", "saw", "[I", true)
  | 25 => ("PlayedLawsModel", "coughing", "I", false)
  | 26 => ("PlayedLawsModel", "best", "[I", true)
  | 27 => ("PlayedLawsModel", "sightOf", "[I", true)
  | 28 => ("PlayedLawsModel", "sightGo", "[I", true)
  | _ => ("PlayedLawsModel", "sights", "I", false)
def tyX11 : Nat → FieldType := fun k => match k with
  | 0 => .array .byte
  | 1 => .int
  | 2 => .array .int
  | 3 => .array .int
  | 4 => .array .int
  | 5 => .array .int
  | 6 => .array .int
  | 7 => .array .int
  | 8 => .array .int
  | 9 => .array .int
  | 10 => .array .int
  | 11 => .int
  | 12 => .int
  | 13 => .int
  | 14 => .boolean
  | 15 => .array .int
  | 16 => .array .int
  | 17 => .int
  | 18 => .array .int
  | 19 => .int
  | 20 => .array .int
  | 21 => .array .int
  | 22 => .array .int
  | 23 => .array .boolean
  | 24 => .array .int
  | 25 => .int
  | 26 => .array .int
  | 27 => .array .int
  | 28 => .array .int
  | _ => .int
abbrev wsX110 : List Cond := u_ws RX11 TX11 30
theorem nmX11 : ∀ a, a < 30 → ∀ b, b < 30 → a ≠ b → (TX11 a).2.1 ≠ (TX11 b).2.1 := by decide +kernel
theorem tyX11_ok : ∀ k, k < 30 → parseFieldDescriptor (TX11 k).2.2.1 = some (tyX11 k) := by decide +kernel
abbrev cX11_init : ByteArray := prog_13_method_1_code
def yX11_init : MethodName := ⟨RX11, "<init>", "()V"⟩
abbrev cX11_in : ByteArray := prog_13_method_3_code
def yX11_in : MethodName := ⟨RX11, "in", "(III)Z"⟩
abbrev cX11_write : ByteArray := prog_13_method_4_code
def yX11_write : MethodName := ⟨RX11, "write", "(I)I"⟩
abbrev cX11_wipe : ByteArray := prog_13_method_5_code
def yX11_wipe : MethodName := ⟨RX11, "wipe", "()I"⟩
abbrev cX11_here : ByteArray := prog_13_method_6_code
def yX11_here : MethodName := ⟨RX11, "here", "()I"⟩
abbrev cX11_isFigure : ByteArray := prog_13_method_7_code
def yX11_isFigure : MethodName := ⟨RX11, "isFigure", "()Z"⟩
abbrev cX11_due : ByteArray := prog_13_method_8_code
def yX11_due : MethodName := ⟨RX11, "due", "(I)V"⟩
abbrev cX11_number : ByteArray := prog_13_method_9_code
def yX11_number : MethodName := ⟨RX11, "number", "(II)I"⟩
abbrev cX11_readScene : ByteArray := prog_13_method_10_code
def yX11_readScene : MethodName := ⟨RX11, "readScene", "()V"⟩
abbrev cX11_readSeat : ByteArray := prog_13_method_11_code
def yX11_readSeat : MethodName := ⟨RX11, "readSeat", "()V"⟩
abbrev cX11_readBill : ByteArray := prog_13_method_12_code
def yX11_readBill : MethodName := ⟨RX11, "readBill", "()V"⟩
abbrev cX11_readItem : ByteArray := prog_13_method_13_code
def yX11_readItem : MethodName := ⟨RX11, "readItem", "()V"⟩
abbrev cX11_read : ByteArray := prog_13_method_14_code
def yX11_read : MethodName := ⟨RX11, "read", "()I"⟩
abbrev cX11_fault : ByteArray := prog_13_method_15_code
def yX11_fault : MethodName := ⟨RX11, "fault", "()I"⟩
abbrev cX11_tellScene : ByteArray := prog_13_method_16_code
def yX11_tellScene : MethodName := ⟨RX11, "tellScene", "(III)V"⟩
abbrev cX11_chair : ByteArray := prog_13_method_17_code
def yX11_chair : MethodName := ⟨RX11, "chair", "(III)V"⟩
abbrev cX11_onBill : ByteArray := prog_13_method_18_code
def yX11_onBill : MethodName := ⟨RX11, "onBill", "(I)V"⟩
abbrev cX11_first : ByteArray := prog_13_method_19_code
def yX11_first : MethodName := ⟨RX11, "first", "()V"⟩
abbrev cX11_takeDraft : ByteArray := prog_13_method_20_code
def yX11_takeDraft : MethodName := ⟨RX11, "takeDraft", "()V"⟩
abbrev cX11_lay : ByteArray := prog_13_method_21_code
def yX11_lay : MethodName := ⟨RX11, "lay", "()I"⟩
abbrev cX11_take : ByteArray := prog_13_method_22_code
def yX11_take : MethodName := ⟨RX11, "take", "()V"⟩
abbrev cX11_isScene : ByteArray := prog_13_method_23_code
def yX11_isScene : MethodName := ⟨RX11, "isScene", "(I)Z"⟩
abbrev cX11_isSeat : ByteArray := prog_13_method_24_code
def yX11_isSeat : MethodName := ⟨RX11, "isSeat", "(I)Z"⟩
abbrev cX11_placeOn : ByteArray := prog_13_method_25_code
def yX11_placeOn : MethodName := ⟨RX11, "placeOn", "([II)I"⟩
abbrev cX11_placeIn : ByteArray := prog_13_method_26_code
def yX11_placeIn : MethodName := ⟨RX11, "placeIn", "([II)I"⟩
abbrev cX11_bitsOf : ByteArray := prog_13_method_27_code
def yX11_bitsOf : MethodName := ⟨RX11, "bitsOf", "(I)I"⟩
abbrev cX11_claquesOf : ByteArray := prog_13_method_28_code
def yX11_claquesOf : MethodName := ⟨RX11, "claquesOf", "([I)I"⟩
abbrev cX11_boundOf : ByteArray := prog_13_method_29_code
def yX11_boundOf : MethodName := ⟨RX11, "boundOf", "([I)I"⟩
abbrev cX11_isGone : ByteArray := prog_13_method_30_code
def yX11_isGone : MethodName := ⟨RX11, "isGone", "([II)Z"⟩
abbrev cX11_bore : ByteArray := prog_13_method_31_code
def yX11_bore : MethodName := ⟨RX11, "bore", "([III)V"⟩
abbrev cX11_canLeave : ByteArray := prog_13_method_32_code
def yX11_canLeave : MethodName := ⟨RX11, "canLeave", "([II)Z"⟩
abbrev cX11_settle : ByteArray := prog_13_method_33_code
def yX11_settle : MethodName := ⟨RX11, "settle", "([III)V"⟩
abbrev cX11_go : ByteArray := prog_13_method_34_code
def yX11_go : MethodName := ⟨RX11, "go", "([I)I"⟩
abbrev cX11_doesPass : ByteArray := prog_13_method_35_code
def yX11_doesPass : MethodName := ⟨RX11, "doesPass", "([I)Z"⟩
abbrev cX11_bind : ByteArray := prog_13_method_36_code
def yX11_bind : MethodName := ⟨RX11, "bind", "([I)V"⟩
abbrev cX11_canPlay : ByteArray := prog_13_method_37_code
def yX11_canPlay : MethodName := ⟨RX11, "canPlay", "([I)Z"⟩
abbrev cX11_playOn : ByteArray := prog_13_method_38_code
def yX11_playOn : MethodName := ⟨RX11, "playOn", "([I)Z"⟩
abbrev cX11_scene : ByteArray := prog_13_method_39_code
def yX11_scene : MethodName := ⟨RX11, "scene", "(II)I"⟩
abbrev cX11_seat : ByteArray := prog_13_method_40_code
def yX11_seat : MethodName := ⟨RX11, "seat", "(II)I"⟩
abbrev cX11_tonight : ByteArray := prog_13_method_41_code
def yX11_tonight : MethodName := ⟨RX11, "tonight", "(II)I"⟩
abbrev cX11_passes : ByteArray := prog_13_method_42_code
def yX11_passes : MethodName := ⟨RX11, "passes", "(I)I"⟩
abbrev cX11_know : ByteArray := prog_13_method_43_code
def yX11_know : MethodName := ⟨RX11, "know", "()V"⟩
abbrev cX11_putOn : ByteArray := prog_13_method_44_code
def yX11_putOn : MethodName := ⟨RX11, "putOn", "([III)V"⟩
abbrev cX11_takeOff : ByteArray := prog_13_method_45_code
def yX11_takeOff : MethodName := ⟨RX11, "takeOff", "([II)V"⟩
abbrev cX11_change : ByteArray := prog_13_method_46_code
def yX11_change : MethodName := ⟨RX11, "change", "([III)V"⟩
abbrev cX11_canHire : ByteArray := prog_13_method_47_code
def yX11_canHire : MethodName := ⟨RX11, "canHire", "([II)Z"⟩
abbrev cX11_hireFor : ByteArray := prog_13_method_48_code
def yX11_hireFor : MethodName := ⟨RX11, "hireFor", "([II)V"⟩
abbrev cX11_add : ByteArray := prog_13_method_49_code
def yX11_add : MethodName := ⟨RX11, "add", "(I)I"⟩
abbrev cX11_cut : ByteArray := prog_13_method_50_code
def yX11_cut : MethodName := ⟨RX11, "cut", "(I)I"⟩
abbrev cX11_play : ByteArray := prog_13_method_51_code
def yX11_play : MethodName := ⟨RX11, "play", "()I"⟩
abbrev cX11_swap : ByteArray := prog_13_method_52_code
def yX11_swap : MethodName := ⟨RX11, "swap", "(II)I"⟩
abbrev cX11_hire : ByteArray := prog_13_method_53_code
def yX11_hire : MethodName := ⟨RX11, "hire", "(I)I"⟩
abbrev cX11_undo : ByteArray := prog_13_method_54_code
def yX11_undo : MethodName := ⟨RX11, "undo", "()I"⟩
abbrev cX11_clausesTried : ByteArray := prog_13_method_55_code
def yX11_clausesTried : MethodName := ⟨RX11, "clausesTried", "()I"⟩
abbrev cX11_minutesTried : ByteArray := prog_13_method_56_code
def yX11_minutesTried : MethodName := ⟨RX11, "minutesTried", "()I"⟩
abbrev cX11_nextBill : ByteArray := prog_13_method_57_code
def yX11_nextBill : MethodName := ⟨RX11, "nextBill", "()Z"⟩
abbrev cX11_soonest : ByteArray := prog_13_method_58_code
def yX11_soonest : MethodName := ⟨RX11, "soonest", "(II)I"⟩
abbrev cX11_nextRow : ByteArray := prog_13_method_59_code
def yX11_nextRow : MethodName := ⟨RX11, "nextRow", "()Z"⟩
abbrev cX11_seating : ByteArray := prog_13_method_60_code
def yX11_seating : MethodName := ⟨RX11, "seating", "(I)I"⟩
abbrev cX11_claques : ByteArray := prog_13_method_61_code
def yX11_claques : MethodName := ⟨RX11, "claques", "(I)I"⟩
abbrev cX11_falls : ByteArray := prog_13_method_62_code
def yX11_falls : MethodName := ⟨RX11, "falls", "()I"⟩
abbrev cX11_run : ByteArray := prog_13_method_63_code
def yX11_run : MethodName := ⟨RX11, "run", "()I"⟩
abbrev cX11_most : ByteArray := prog_13_method_64_code
def yX11_most : MethodName := ⟨RX11, "most", "(I)I"⟩
abbrev cX11_see : ByteArray := prog_13_method_65_code
def yX11_see : MethodName := ⟨RX11, "see", "(II)I"⟩
abbrev cX11_forget : ByteArray := prog_13_method_66_code
def yX11_forget : MethodName := ⟨RX11, "forget", "()I"⟩
abbrev cX11_isSo : ByteArray := prog_13_method_67_code
def yX11_isSo : MethodName := ⟨RX11, "isSo", "(I)Z"⟩
abbrev cX11_fits : ByteArray := prog_13_method_68_code
def yX11_fits : MethodName := ⟨RX11, "fits", "(II)I"⟩
abbrev cX11_coughs : ByteArray := prog_13_method_69_code
def yX11_coughs : MethodName := ⟨RX11, "coughs", "(II)I"⟩
abbrev cX11_turn : ByteArray := prog_13_method_70_code
def yX11_turn : MethodName := ⟨RX11, "turn", "(I)I"⟩
abbrev cX11_season : ByteArray := prog_13_method_71_code
def yX11_season : MethodName := ⟨RX11, "season", "(III)I"⟩
abbrev cX11_keep : ByteArray := prog_13_method_72_code
def yX11_keep : MethodName := ⟨RX11, "keep", "()I"⟩
abbrev cX11_back : ByteArray := prog_13_method_73_code
def yX11_back : MethodName := ⟨RX11, "back", "()I"⟩
abbrev cX11_count : ByteArray := prog_13_method_74_code
def yX11_count : MethodName := ⟨RX11, "count", "(I)I"⟩
def RJx145de : String := "java/io/Serializable"
def TJx145de : u_T := fun k => match k with
  | _ => ("", "", "", false)
def tyJx145de : Nat → FieldType := fun k => match k with
  | _ => .int
abbrev wsJx145de0 : List Cond := u_ws RJx145de TJx145de 0
theorem nmJx145de : ∀ a, a < 0 → ∀ b, b < 0 → a ≠ b → (TJx145de a).2.1 ≠ (TJx145de b).2.1 := by decide +kernel
theorem tyJx145de_ok : ∀ k, k < 0 → parseFieldDescriptor (TJx145de k).2.2.1 = some (tyJx145de k) := by decide +kernel
def RJx9f9b0 : String := "java/lang/CharSequence"
def TJx9f9b0 : u_T := fun k => match k with
  | _ => ("", "", "", false)
def tyJx9f9b0 : Nat → FieldType := fun k => match k with
  | _ => .int
abbrev wsJx9f9b00 : List Cond := u_ws RJx9f9b0 TJx9f9b0 0
theorem nmJx9f9b0 : ∀ a, a < 0 → ∀ b, b < 0 → a ≠ b → (TJx9f9b0 a).2.1 ≠ (TJx9f9b0 b).2.1 := by decide +kernel
theorem tyJx9f9b0_ok : ∀ k, k < 0 → parseFieldDescriptor (TJx9f9b0 k).2.2.1 = some (tyJx9f9b0 k) := by decide +kernel
def RJxb160c : String := "java/lang/Comparable"
def TJxb160c : u_T := fun k => match k with
  | _ => ("", "", "", false)
def tyJxb160c : Nat → FieldType := fun k => match k with
  | _ => .int
abbrev wsJxb160c0 : List Cond := u_ws RJxb160c TJxb160c 0
theorem nmJxb160c : ∀ a, a < 0 → ∀ b, b < 0 → a ≠ b → (TJxb160c a).2.1 ≠ (TJxb160c b).2.1 := by decide +kernel
theorem tyJxb160c_ok : ∀ k, k < 0 → parseFieldDescriptor (TJxb160c k).2.2.1 = some (tyJxb160c k) := by decide +kernel
def RJ6 : String := "java/lang/Integer"
def TJ6 : u_T := fun k => match k with
  | _ => ("", "", "", false)
def tyJ6 : Nat → FieldType := fun k => match k with
  | _ => .int
abbrev wsJ60 : List Cond := u_ws RJ6 TJ6 0
theorem nmJ6 : ∀ a, a < 0 → ∀ b, b < 0 → a ≠ b → (TJ6 a).2.1 ≠ (TJ6 b).2.1 := by decide +kernel
theorem tyJ6_ok : ∀ k, k < 0 → parseFieldDescriptor (TJ6 k).2.2.1 = some (tyJ6 k) := by decide +kernel
abbrev cJ6_bitCount_0f7a4 : ByteArray := prog_14_method_49_code
def yJ6_bitCount_0f7a4 : MethodName := ⟨RJ6, "bitCount", "(I)I"⟩
def RJ9 : String := "java/lang/Math"
def TJ9 : u_T := fun k => match k with
  | _ => ("", "", "", false)
def tyJ9 : Nat → FieldType := fun k => match k with
  | _ => .int
abbrev wsJ90 : List Cond := u_ws RJ9 TJ9 0
theorem nmJ9 : ∀ a, a < 0 → ∀ b, b < 0 → a ≠ b → (TJ9 a).2.1 ≠ (TJ9 b).2.1 := by decide +kernel
theorem tyJ9_ok : ∀ k, k < 0 → parseFieldDescriptor (TJ9 k).2.2.1 = some (tyJ9 k) := by decide +kernel
abbrev cJ9_max_7cf53 : ByteArray := prog_15_method_65_code
def yJ9_max_7cf53 : MethodName := ⟨RJ9, "max", "(II)I"⟩
abbrev cJ9_min_7cf53 : ByteArray := prog_15_method_69_code
def yJ9_min_7cf53 : MethodName := ⟨RJ9, "min", "(II)I"⟩
def RJ0 : String := "java/lang/String"
def TJ0 : u_T := fun k => match k with
  | _ => ("", "", "", false)
def tyJ0 : Nat → FieldType := fun k => match k with
  | _ => .int
abbrev wsJ00 : List Cond := u_ws RJ0 TJ0 0
theorem nmJ0 : ∀ a, a < 0 → ∀ b, b < 0 → a ≠ b → (TJ0 a).2.1 ≠ (TJ0 b).2.1 := by decide +kernel
theorem tyJ0_ok : ∀ k, k < 0 → parseFieldDescriptor (TJ0 k).2.2.1 = some (tyJ0 k) := by decide +kernel
abbrev cJ0_length_8abf5 : ByteArray := prog_16_method_54_code
def yJ0_length_8abf5 : MethodName := ⟨RJ0, "length", "()I"⟩
abbrev cJ0_charAt_5068e : ByteArray := prog_16_method_56_code
def yJ0_charAt_5068e : MethodName := ⟨RJ0, "charAt", "(I)C"⟩
abbrev cJ0_coder_7d493 : ByteArray := prog_16_method_152_code
def yJ0_coder_7d493 : MethodName := ⟨RJ0, "coder", "()B"⟩
abbrev cJ0_isLatin1_aae02 : ByteArray := prog_16_method_154_code
def yJ0_isLatin1_aae02 : MethodName := ⟨RJ0, "isLatin1", "()Z"⟩
abbrev cJ0_checkIndex_df160 : ByteArray := prog_16_method_155_code
def yJ0_checkIndex_df160 : MethodName := ⟨RJ0, "checkIndex", "(II)V"⟩
def RJ1 : String := "java/lang/StringLatin1"
def TJ1 : u_T := fun k => match k with
  | _ => ("", "", "", false)
def tyJ1 : Nat → FieldType := fun k => match k with
  | _ => .int
abbrev wsJ10 : List Cond := u_ws RJ1 TJ1 0
theorem nmJ1 : ∀ a, a < 0 → ∀ b, b < 0 → a ≠ b → (TJ1 a).2.1 ≠ (TJ1 b).2.1 := by decide +kernel
theorem tyJ1_ok : ∀ k, k < 0 → parseFieldDescriptor (TJ1 k).2.2.1 = some (tyJ1 k) := by decide +kernel
abbrev cJ1_charAt_3b067 : ByteArray := prog_17_method_2_code
def yJ1_charAt_3b067 : MethodName := ⟨RJ1, "charAt", "([BI)C"⟩
def RJ2 : String := "java/lang/StringUTF16"
def TJ2 : u_T := fun k => match k with
  | _ => ("", "", "", false)
def tyJ2 : Nat → FieldType := fun k => match k with
  | _ => .int
abbrev wsJ20 : List Cond := u_ws RJ2 TJ2 0
theorem nmJ2 : ∀ a, a < 0 → ∀ b, b < 0 → a ≠ b → (TJ2 a).2.1 ≠ (TJ2 b).2.1 := by decide +kernel
theorem tyJ2_ok : ∀ k, k < 0 → parseFieldDescriptor (TJ2 k).2.2.1 = some (tyJ2 k) := by decide +kernel
abbrev cJ2_getChar_3b067 : ByteArray := prog_18_method_5_code
def yJ2_getChar_3b067 : MethodName := ⟨RJ2, "getChar", "([BI)C"⟩
abbrev cJ2_length_9d52b : ByteArray := prog_18_method_6_code
def yJ2_length_9d52b : MethodName := ⟨RJ2, "length", "([B)I"⟩
abbrev cJ2_charAt_3b067 : ByteArray := prog_18_method_83_code
def yJ2_charAt_3b067 : MethodName := ⟨RJ2, "charAt", "([BI)C"⟩
abbrev cJ2_checkIndex_2214a : ByteArray := prog_18_method_91_code
def yJ2_checkIndex_2214a : MethodName := ⟨RJ2, "checkIndex", "(I[B)V"⟩
def RJ10 : String := "java/lang/System"
def TJ10 : u_T := fun k => match k with
  | _ => ("", "", "", false)
def tyJ10 : Nat → FieldType := fun k => match k with
  | _ => .int
abbrev wsJ100 : List Cond := u_ws RJ10 TJ10 0
theorem nmJ10 : ∀ a, a < 0 → ∀ b, b < 0 → a ≠ b → (TJ10 a).2.1 ≠ (TJ10 b).2.1 := by decide +kernel
theorem tyJ10_ok : ∀ k, k < 0 → parseFieldDescriptor (TJ10 k).2.2.1 = some (tyJ10 k) := by decide +kernel
def RJxfd54e : String := "java/lang/constant/Constable"
def TJxfd54e : u_T := fun k => match k with
  | _ => ("", "", "", false)
def tyJxfd54e : Nat → FieldType := fun k => match k with
  | _ => .int
abbrev wsJxfd54e0 : List Cond := u_ws RJxfd54e TJxfd54e 0
theorem nmJxfd54e : ∀ a, a < 0 → ∀ b, b < 0 → a ≠ b → (TJxfd54e a).2.1 ≠ (TJxfd54e b).2.1 := by decide +kernel
theorem tyJxfd54e_ok : ∀ k, k < 0 → parseFieldDescriptor (TJxfd54e k).2.2.1 = some (tyJxfd54e k) := by decide +kernel
def RJx3cf43 : String := "java/lang/constant/ConstantDesc"
def TJx3cf43 : u_T := fun k => match k with
  | _ => ("", "", "", false)
def tyJx3cf43 : Nat → FieldType := fun k => match k with
  | _ => .int
abbrev wsJx3cf430 : List Cond := u_ws RJx3cf43 TJx3cf43 0
theorem nmJx3cf43 : ∀ a, a < 0 → ∀ b, b < 0 → a ≠ b → (TJx3cf43 a).2.1 ≠ (TJx3cf43 b).2.1 := by decide +kernel
theorem tyJx3cf43_ok : ∀ k, k < 0 → parseFieldDescriptor (TJx3cf43 k).2.2.1 = some (tyJx3cf43 k) := by decide +kernel
def RJ7 : String := "java/util/Arrays"
def TJ7 : u_T := fun k => match k with
  | _ => ("", "", "", false)
def tyJ7 : Nat → FieldType := fun k => match k with
  | _ => .int
abbrev wsJ70 : List Cond := u_ws RJ7 TJ7 0
theorem nmJ7 : ∀ a, a < 0 → ∀ b, b < 0 → a ≠ b → (TJ7 a).2.1 ≠ (TJ7 b).2.1 := by decide +kernel
theorem tyJ7_ok : ∀ k, k < 0 → parseFieldDescriptor (TJ7 k).2.2.1 = some (tyJ7 k) := by decide +kernel
abbrev cJ7_fill_53178 : ByteArray := prog_20_method_103_code
def yJ7_fill_53178 : MethodName := ⟨RJ7, "fill", "([II)V"⟩
def RJ3 : String := "jdk/internal/util/Preconditions"
def TJ3 : u_T := fun k => match k with
  | _ => ("", "", "", false)
def tyJ3 : Nat → FieldType := fun k => match k with
  | _ => .int
abbrev wsJ30 : List Cond := u_ws RJ3 TJ3 0
theorem nmJ3 : ∀ a, a < 0 → ∀ b, b < 0 → a ≠ b → (TJ3 a).2.1 ≠ (TJ3 b).2.1 := by decide +kernel
theorem tyJ3_ok : ∀ k, k < 0 → parseFieldDescriptor (TJ3 k).2.2.1 = some (tyJ3 k) := by decide +kernel
abbrev cJ3_checkIndex_8e157 : ByteArray := prog_21_method_11_code
def yJ3_checkIndex_8e157 : MethodName := ⟨RJ3, "checkIndex", "(IILjava/util/function/BiFunction;)I"⟩
def RL : String := "PlayedLawsLaw"
abbrev cL_law : ByteArray := code
def yL_law : MethodName := ⟨RL, "law", "([I)Z"⟩
end
section
/-! tables, by program (wip/whole/gen.py): methods by number, their instructions, pools, fields, the order of making -/
abbrev jA : Type := Nat × Nat
abbrev jR : Type := Nat × jA
abbrev jCode : Type := List (List (Nat × (Instr × Nat)))
def jObjCode : ByteArray := ⟨#[0xb1]⟩
/-- Chances.init ()V -/
def jc0 : jCode := [[(0, (.aload_n 0, 1)), (1, (.invokespecial 3, 3)), (4, (.aload_n 0, 1)), (5, (.new 9, 3)), (8, (.dup, 1)), (9, (.invokespecial 11, 3)), (12, (.putfield 12, 3)), (15, (.aload_n 0, 1))], [(16, (.new 18, 3)), (19, (.dup, 1)), (20, (.invokespecial 20, 3)), (23, (.putfield 21, 3)), (26, (.return_, 1))]]
/-- Chances.weigh (LPlayedLaws$House;I)V -/
def jc1 : jCode := [[(0, (.aload_n 0, 1)), (1, (.iconst 0, 1)), (2, (.putfield 25, 3)), (5, (.aload_n 0, 1)), (6, (.iconst 1, 1)), (7, (.putfield 29, 3)), (10, (.iconst 0, 1)), (11, (.istore_n 3, 1)), (12, (.iload_n 3, 1)), (13, (.aload_n 1, 1)), (14, (.getfield 32, 3))], [(17, (.if_icmp .ge 28, 3)), (20, (.aload_n 1, 1)), (21, (.iload_n 3, 1)), (22, (.invokestatic 35, 3)), (25, (.ifCond .eq 14, 3)), (28, (.aload_n 0, 1)), (29, (.dup, 1)), (30, (.getfield 29, 3))], [(33, (.bipush 10, 2)), (35, (.imul, 1)), (36, (.putfield 29, 3)), (39, (.iinc 3 1, 3)), (42, (.goto (-30), 3)), (45, (.iconst 0, 1)), (46, (.istore_n 3, 1)), (47, (.iload_n 3, 1))], [(48, (.iconst 1, 1)), (49, (.aload_n 1, 1)), (50, (.getfield 32, 3)), (53, (.ishl, 1)), (54, (.if_icmp .ge 56, 3)), (57, (.aload_n 1, 1)), (58, (.iload_n 3, 1)), (59, (.iload_n 2, 1)), (60, (.invokestatic 39, 3)), (63, (.istore 4, 2))], [(65, (.iload 4, 2)), (67, (.ifCond .ne 6, 3)), (70, (.goto 34, 3)), (73, (.aload_n 0, 1)), (74, (.getfield 21, 3)), (77, (.aload_n 1, 1)), (78, (.iload_n 3, 1)), (79, (.invokevirtual 43, 3))], [(82, (.aload_n 0, 1)), (83, (.getfield 21, 3)), (86, (.aload_n 1, 1)), (87, (.invokevirtual 47, 3)), (90, (.ifCond .eq 14, 3)), (93, (.aload_n 0, 1)), (94, (.dup, 1)), (95, (.getfield 25, 3))], [(98, (.iload 4, 2)), (100, (.iadd, 1)), (101, (.putfield 25, 3)), (104, (.iinc 3 1, 3)), (107, (.goto (-60), 3)), (110, (.aload_n 0, 1)), (111, (.getfield 25, 3))], [(114, (.aload_n 0, 1)), (115, (.getfield 29, 3)), (118, (.invokestatic 51, 3)), (121, (.istore_n 3, 1)), (122, (.iload_n 3, 1)), (123, (.iconst 1, 1)), (124, (.if_icmp .ge 4, 3)), (127, (.return_, 1))], [(128, (.aload_n 0, 1)), (129, (.dup, 1)), (130, (.getfield 25, 3)), (133, (.iload_n 3, 1)), (134, (.idiv, 1)), (135, (.putfield 25, 3)), (138, (.aload_n 0, 1)), (139, (.dup, 1)), (140, (.getfield 29, 3)), (143, (.iload_n 3, 1))], [(144, (.idiv, 1)), (145, (.putfield 29, 3)), (148, (.return_, 1))]]
/-- Chances.weightOf (LPlayedLaws$House;II)I -/
def jc2 : jCode := [[(0, (.iconst 1, 1)), (1, (.istore_n 3, 1)), (2, (.iconst 0, 1)), (3, (.istore 4, 2)), (5, (.iload 4, 2)), (7, (.aload_n 0, 1)), (8, (.getfield 32, 3)), (11, (.if_icmp .ge 52, 3)), (14, (.iload_n 1, 1)), (15, (.iload 4, 2))], [(17, (.invokestatic 55, 3)), (20, (.istore 5, 2)), (22, (.aload_n 0, 1)), (23, (.iload 4, 2)), (25, (.invokestatic 35, 3)), (28, (.ifCond .eq 22, 3)), (31, (.iload_n 3, 1))], [(32, (.iload 5, 2)), (34, (.ifCond .eq 7, 3)), (37, (.iload_n 2, 1)), (38, (.goto 7, 3)), (41, (.bipush 10, 2)), (43, (.iload_n 2, 1)), (44, (.isub, 1)), (45, (.imul, 1)), (46, (.istore_n 3, 1)), (47, (.goto 10, 3))], [(50, (.iload 5, 2)), (52, (.ifCond .eq 5, 3)), (55, (.iconst 0, 1)), (56, (.ireturn, 1)), (57, (.iinc 4 1, 3)), (60, (.goto (-55), 3)), (63, (.iload_n 3, 1))], [(64, (.ireturn, 1))]]
/-- Chances.canCough (LPlayedLaws$House;I)Z -/
def jc3 : jCode := [[(0, (.aload_n 0, 1)), (1, (.getfield 59, 3)), (4, (.iload_n 1, 1)), (5, (.invokevirtual 63, 3)), (8, (.istore_n 2, 1)), (9, (.iload_n 2, 1)), (10, (.iconst 1, 1)), (11, (.if_icmp .eq 12, 3)), (14, (.iload_n 2, 1)), (15, (.iconst 3, 1))], [(16, (.if_icmp .eq 7, 3)), (19, (.iconst 1, 1)), (20, (.goto 4, 3)), (23, (.iconst 0, 1)), (24, (.ireturn, 1))]]
/-- Chances.commonDivisor (II)I -/
def jc4 : jCode := [[(0, (.iload_n 0, 1)), (1, (.istore_n 2, 1)), (2, (.iload_n 1, 1)), (3, (.istore_n 3, 1)), (4, (.iconst 0, 1)), (5, (.istore 4, 2)), (7, (.iload 4, 2)), (9, (.bipush 100, 2)), (11, (.if_icmp .ge 23, 3)), (14, (.iload_n 3, 1)), (15, (.ifCond .eq 19, 3))], [(18, (.iload_n 2, 1)), (19, (.iload_n 3, 1)), (20, (.irem, 1)), (21, (.istore 5, 2)), (23, (.iload_n 3, 1)), (24, (.istore_n 2, 1)), (25, (.iload 5, 2)), (27, (.istore_n 3, 1)), (28, (.iinc 4 1, 3)), (31, (.goto (-24), 3))], [(34, (.iload_n 2, 1)), (35, (.ireturn, 1))]]
/-- Chances.playSeason (LPlayedLaws$House;II)V -/
def jc5 : jCode := [[(0, (.aload_n 0, 1)), (1, (.getfield 12, 3)), (4, (.aload_n 1, 1)), (5, (.invokevirtual 69, 3)), (8, (.iconst 0, 1)), (9, (.istore 4, 2)), (11, (.iload 4, 2)), (13, (.iload_n 3, 1)), (14, (.if_icmp .ge 41, 3))], [(17, (.ldc2_w 73, 3)), (20, (.iload_n 2, 1)), (21, (.i2l, 1)), (22, (.lmul, 1)), (23, (.ldc2_w 75, 3)), (26, (.iload 4, 2)), (28, (.i2l, 1)), (29, (.lmul, 1)), (30, (.ladd, 1)), (31, (.lconst 1, 1))], [(32, (.ladd, 1)), (33, (.lstore 5, 2)), (35, (.aload_n 0, 1)), (36, (.lload 5, 2)), (38, (.lload 5, 2)), (40, (.lmul, 1)), (41, (.ldc2_w 77, 3)), (44, (.lrem, 1)), (45, (.l2i, 1)), (46, (.invokevirtual 79, 3))], [(49, (.iinc 4 1, 3)), (52, (.goto (-41), 3)), (55, (.return_, 1))]]
/-- Chances.takeDraw (I)V -/
def jc6 : jCode := [[(0, (.aload_n 0, 1)), (1, (.getfield 12, 3)), (4, (.getfield 83, 3)), (7, (.iconst 1, 1)), (8, (.if_icmp .lt 14, 3)), (11, (.aload_n 0, 1)), (12, (.getfield 12, 3)), (15, (.getfield 32, 3))], [(18, (.iconst 1, 1)), (19, (.if_icmp .ge 4, 3)), (22, (.return_, 1)), (23, (.iload_n 1, 1)), (24, (.bipush 8, 2)), (26, (.idiv, 1)), (27, (.aload_n 0, 1)), (28, (.getfield 12, 3)), (31, (.getfield 83, 3))], [(34, (.irem, 1)), (35, (.istore_n 2, 1)), (36, (.iload_n 1, 1)), (37, (.bipush 8, 2)), (39, (.idiv, 1)), (40, (.aload_n 0, 1)), (41, (.getfield 12, 3)), (44, (.getfield 32, 3)), (47, (.irem, 1))], [(48, (.istore_n 3, 1)), (49, (.iload_n 1, 1)), (50, (.bipush 64, 2)), (52, (.idiv, 1)), (53, (.aload_n 0, 1)), (54, (.getfield 12, 3)), (57, (.getfield 32, 3)), (60, (.irem, 1)), (61, (.istore 4, 2)), (63, (.iload_n 1, 1))], [(64, (.bipush 8, 2)), (66, (.irem, 1)), (67, (.tableswitch 125 0 4 #[33, 33, 62, 84, 103], 33))], [], [(100, (.aload_n 0, 1)), (101, (.getfield 12, 3)), (104, (.iload_n 2, 1)), (105, (.invokevirtual 86, 3)), (108, (.ifCond .ne 120, 3)), (111, (.aload_n 0, 1))], [(112, (.getfield 12, 3)), (115, (.iload_n 2, 1)), (116, (.aload_n 0, 1)), (117, (.getfield 12, 3)), (120, (.getfield 90, 3)), (123, (.invokevirtual 93, 3)), (126, (.goto 102, 3))], [(129, (.aload_n 0, 1)), (130, (.getfield 12, 3)), (133, (.iload_n 2, 1)), (134, (.invokevirtual 86, 3)), (137, (.ifCond .eq 91, 3)), (140, (.aload_n 0, 1)), (141, (.getfield 12, 3))], [(144, (.iload_n 2, 1)), (145, (.invokevirtual 97, 3)), (148, (.goto 80, 3)), (151, (.iload_n 3, 1)), (152, (.iload 4, 2)), (154, (.if_icmp .eq 74, 3)), (157, (.aload_n 0, 1)), (158, (.getfield 12, 3))], [(161, (.iload_n 3, 1)), (162, (.iload 4, 2)), (164, (.invokevirtual 100, 3)), (167, (.goto 61, 3)), (170, (.aload_n 0, 1)), (171, (.getfield 12, 3)), (174, (.iload_n 3, 1)), (175, (.invokevirtual 103, 3))], [(178, (.ifCond .eq 50, 3)), (181, (.aload_n 0, 1)), (182, (.getfield 12, 3)), (185, (.iload_n 3, 1)), (186, (.invokevirtual 106, 3)), (189, (.goto 39, 3))], [(192, (.aload_n 0, 1)), (193, (.getfield 12, 3)), (196, (.invokevirtual 109, 3)), (199, (.ifCond .ne 6, 3)), (202, (.goto 26, 3)), (205, (.aload_n 0, 1)), (206, (.getfield 21, 3))], [(209, (.aload_n 0, 1)), (210, (.getfield 12, 3)), (213, (.iconst 0, 1)), (214, (.invokevirtual 43, 3)), (217, (.aload_n 0, 1)), (218, (.getfield 12, 3)), (221, (.aload_n 0, 1)), (222, (.getfield 21, 3))], [(225, (.invokevirtual 113, 3)), (228, (.return_, 1))]]
/-- House.init ()V -/
def jc7 : jCode := [[(0, (.aload_n 0, 1)), (1, (.invokespecial 3, 3)), (4, (.aload_n 0, 1)), (5, (.new 9, 3)), (8, (.dup, 1)), (9, (.bipush 7, 2)), (11, (.invokespecial 11, 3)), (14, (.putfield 14, 3))], [(17, (.aload_n 0, 1)), (18, (.new 9, 3)), (21, (.dup, 1)), (22, (.bipush 7, 2)), (24, (.invokespecial 11, 3)), (27, (.putfield 20, 3)), (30, (.aload_n 0, 1)), (31, (.new 9, 3))], [(34, (.dup, 1)), (35, (.bipush 7, 2)), (37, (.invokespecial 11, 3)), (40, (.putfield 23, 3)), (43, (.aload_n 0, 1)), (44, (.new 9, 3)), (47, (.dup, 1))], [(48, (.bipush 7, 2)), (50, (.invokespecial 11, 3)), (53, (.putfield 26, 3)), (56, (.aload_n 0, 1)), (57, (.new 9, 3)), (60, (.dup, 1)), (61, (.bipush 7, 2)), (63, (.invokespecial 11, 3))], [(66, (.putfield 29, 3)), (69, (.aload_n 0, 1)), (70, (.new 9, 3)), (73, (.dup, 1)), (74, (.bipush 7, 2)), (76, (.invokespecial 11, 3)), (79, (.putfield 32, 3))], [(82, (.aload_n 0, 1)), (83, (.new 9, 3)), (86, (.dup, 1)), (87, (.bipush 7, 2)), (89, (.invokespecial 11, 3)), (92, (.putfield 35, 3)), (95, (.aload_n 0, 1))], [(96, (.new 9, 3)), (99, (.dup, 1)), (100, (.bipush 7, 2)), (102, (.invokespecial 11, 3)), (105, (.putfield 38, 3)), (108, (.aload_n 0, 1)), (109, (.new 9, 3))], [(112, (.dup, 1)), (113, (.bipush 7, 2)), (115, (.invokespecial 11, 3)), (118, (.putfield 41, 3)), (121, (.aload_n 0, 1)), (122, (.new 9, 3)), (125, (.dup, 1)), (126, (.bipush 7, 2))], [(128, (.invokespecial 11, 3)), (131, (.putfield 44, 3)), (134, (.return_, 1))]]
/-- House.empty ()V -/
def jc8 : jCode := [[(0, (.aload_n 0, 1)), (1, (.getfield 26, 3)), (4, (.invokevirtual 47, 3)), (7, (.aload_n 0, 1)), (8, (.getfield 41, 3)), (11, (.invokevirtual 47, 3)), (14, (.aload_n 0, 1)), (15, (.getfield 44, 3))], [(18, (.invokevirtual 50, 3)), (21, (.aload_n 0, 1)), (22, (.iconst 0, 1)), (23, (.putfield 53, 3)), (26, (.aload_n 0, 1)), (27, (.iconst 0, 1)), (28, (.putfield 57, 3)), (31, (.aload_n 0, 1))], [(32, (.iconst 0, 1)), (33, (.putfield 60, 3)), (36, (.aload_n 0, 1)), (37, (.bipush 20, 2)), (39, (.putfield 63, 3)), (42, (.aload_n 0, 1)), (43, (.iconst 0, 1)), (44, (.putfield 66, 3)), (47, (.aload_n 0, 1))], [(48, (.iconst 0, 1)), (49, (.putfield 69, 3)), (52, (.return_, 1))]]
/-- House.copy (LPlayedLaws$House;)V -/
def jc9 : jCode := [[(0, (.aload_n 0, 1)), (1, (.getfield 14, 3)), (4, (.aload_n 1, 1)), (5, (.getfield 14, 3)), (8, (.invokevirtual 72, 3)), (11, (.aload_n 0, 1)), (12, (.getfield 20, 3)), (15, (.aload_n 1, 1))], [(16, (.getfield 20, 3)), (19, (.invokevirtual 72, 3)), (22, (.aload_n 0, 1)), (23, (.getfield 23, 3)), (26, (.aload_n 1, 1)), (27, (.getfield 23, 3)), (30, (.invokevirtual 72, 3))], [(33, (.aload_n 0, 1)), (34, (.getfield 26, 3)), (37, (.aload_n 1, 1)), (38, (.getfield 26, 3)), (41, (.invokevirtual 72, 3)), (44, (.aload_n 0, 1)), (45, (.getfield 29, 3))], [(48, (.aload_n 1, 1)), (49, (.getfield 29, 3)), (52, (.invokevirtual 72, 3)), (55, (.aload_n 0, 1)), (56, (.getfield 32, 3)), (59, (.aload_n 1, 1)), (60, (.getfield 32, 3)), (63, (.invokevirtual 72, 3))], [(66, (.aload_n 0, 1)), (67, (.getfield 35, 3)), (70, (.aload_n 1, 1)), (71, (.getfield 35, 3)), (74, (.invokevirtual 72, 3)), (77, (.aload_n 0, 1)), (78, (.getfield 38, 3))], [(81, (.aload_n 1, 1)), (82, (.getfield 38, 3)), (85, (.invokevirtual 72, 3)), (88, (.aload_n 0, 1)), (89, (.getfield 41, 3)), (92, (.aload_n 1, 1)), (93, (.getfield 41, 3))], [(96, (.invokevirtual 72, 3)), (99, (.aload_n 0, 1)), (100, (.getfield 44, 3)), (103, (.aload_n 1, 1)), (104, (.getfield 44, 3)), (107, (.invokevirtual 72, 3)), (110, (.aload_n 0, 1)), (111, (.aload_n 1, 1))], [(112, (.getfield 53, 3)), (115, (.putfield 53, 3)), (118, (.aload_n 0, 1)), (119, (.aload_n 1, 1)), (120, (.getfield 57, 3)), (123, (.putfield 57, 3)), (126, (.aload_n 0, 1)), (127, (.aload_n 1, 1))], [(128, (.getfield 60, 3)), (131, (.putfield 60, 3)), (134, (.aload_n 0, 1)), (135, (.aload_n 1, 1)), (136, (.getfield 63, 3)), (139, (.putfield 63, 3)), (142, (.aload_n 0, 1)), (143, (.aload_n 1, 1))], [(144, (.getfield 66, 3)), (147, (.putfield 66, 3)), (150, (.aload_n 0, 1)), (151, (.aload_n 1, 1)), (152, (.getfield 69, 3)), (155, (.putfield 69, 3)), (158, (.return_, 1))]]
/-- House.tellScene (III)Z -/
def jc10 : jCode := [[(0, (.aload_n 0, 1)), (1, (.getfield 53, 3)), (4, (.bipush 7, 2)), (6, (.if_icmp .lt 5, 3)), (9, (.iconst 0, 1)), (10, (.ireturn, 1)), (11, (.aload_n 0, 1)), (12, (.getfield 14, 3)), (15, (.aload_n 0, 1))], [(16, (.getfield 53, 3)), (19, (.iload_n 1, 1)), (20, (.invokevirtual 76, 3)), (23, (.aload_n 0, 1)), (24, (.getfield 20, 3)), (27, (.aload_n 0, 1)), (28, (.getfield 53, 3)), (31, (.iload_n 2, 1))], [(32, (.invokevirtual 76, 3)), (35, (.aload_n 0, 1)), (36, (.getfield 23, 3)), (39, (.aload_n 0, 1)), (40, (.getfield 53, 3)), (43, (.iload_n 3, 1)), (44, (.invokevirtual 76, 3)), (47, (.aload_n 0, 1))], [(48, (.dup, 1)), (49, (.getfield 53, 3)), (52, (.iconst 1, 1)), (53, (.iadd, 1)), (54, (.putfield 53, 3)), (57, (.iconst 1, 1)), (58, (.ireturn, 1))]]
/-- House.tellSeat (III)Z -/
def jc11 : jCode := [[(0, (.aload_n 0, 1)), (1, (.getfield 57, 3)), (4, (.bipush 7, 2)), (6, (.if_icmp .lt 5, 3)), (9, (.iconst 0, 1)), (10, (.ireturn, 1)), (11, (.aload_n 0, 1)), (12, (.getfield 32, 3)), (15, (.aload_n 0, 1))], [(16, (.getfield 57, 3)), (19, (.iload_n 1, 1)), (20, (.invokevirtual 76, 3)), (23, (.aload_n 0, 1)), (24, (.getfield 35, 3)), (27, (.aload_n 0, 1)), (28, (.getfield 57, 3)), (31, (.iload_n 2, 1))], [(32, (.invokevirtual 76, 3)), (35, (.aload_n 0, 1)), (36, (.getfield 38, 3)), (39, (.aload_n 0, 1)), (40, (.getfield 57, 3)), (43, (.iload_n 3, 1)), (44, (.invokevirtual 76, 3)), (47, (.aload_n 0, 1))], [(48, (.dup, 1)), (49, (.getfield 57, 3)), (52, (.iconst 1, 1)), (53, (.iadd, 1)), (54, (.putfield 57, 3)), (57, (.iconst 1, 1)), (58, (.ireturn, 1))]]
/-- House.isScene (I)Z -/
def jc12 : jCode := [[(0, (.iload_n 1, 1)), (1, (.iconst 0, 1)), (2, (.aload_n 0, 1)), (3, (.getfield 53, 3)), (6, (.iconst 1, 1)), (7, (.isub, 1)), (8, (.invokestatic 80, 3)), (11, (.ireturn, 1))]]
/-- House.isSeat (I)Z -/
def jc13 : jCode := [[(0, (.iload_n 1, 1)), (1, (.iconst 0, 1)), (2, (.aload_n 0, 1)), (3, (.getfield 57, 3)), (6, (.iconst 1, 1)), (7, (.isub, 1)), (8, (.invokestatic 80, 3)), (11, (.ireturn, 1))]]
/-- House.placeOnBill (I)I -/
def jc14 : jCode := [[(0, (.aload_n 0, 1)), (1, (.getfield 29, 3)), (4, (.iload_n 1, 1)), (5, (.aload_n 0, 1)), (6, (.getfield 60, 3)), (9, (.invokevirtual 84, 3)), (12, (.ireturn, 1))]]
/-- House.placeInLine (I)I -/
def jc15 : jCode := [[(0, (.aload_n 0, 1)), (1, (.getfield 44, 3)), (4, (.iload_n 1, 1)), (5, (.aload_n 0, 1)), (6, (.getfield 57, 3)), (9, (.invokevirtual 84, 3)), (12, (.ireturn, 1))]]
/-- House.isBilled (I)Z -/
def jc16 : jCode := [[(0, (.aload_n 0, 1)), (1, (.getfield 29, 3)), (4, (.iload_n 1, 1)), (5, (.aload_n 0, 1)), (6, (.getfield 60, 3)), (9, (.invokevirtual 84, 3)), (12, (.bipush (-4), 2)), (14, (.if_icmp .eq 7, 3))], [(17, (.iconst 1, 1)), (18, (.goto 4, 3)), (21, (.iconst 0, 1)), (22, (.ireturn, 1))]]
/-- House.mount (II)V -/
def jc17 : jCode := [[(0, (.aload_n 0, 1)), (1, (.getfield 29, 3)), (4, (.iload_n 2, 1)), (5, (.iload_n 1, 1)), (6, (.aload_n 0, 1)), (7, (.getfield 60, 3)), (10, (.invokevirtual 88, 3)), (13, (.aload_n 0, 1)), (14, (.dup, 1)), (15, (.getfield 60, 3))], [(18, (.iconst 1, 1)), (19, (.iadd, 1)), (20, (.putfield 60, 3)), (23, (.return_, 1))]]
/-- House.strike (I)V -/
def jc18 : jCode := [[(0, (.aload_n 0, 1)), (1, (.getfield 29, 3)), (4, (.aload_n 0, 1)), (5, (.iload_n 1, 1)), (6, (.invokevirtual 92, 3)), (9, (.aload_n 0, 1)), (10, (.getfield 60, 3)), (13, (.invokevirtual 96, 3))], [(16, (.aload_n 0, 1)), (17, (.dup, 1)), (18, (.getfield 60, 3)), (21, (.iconst 1, 1)), (22, (.isub, 1)), (23, (.putfield 60, 3)), (26, (.return_, 1))]]
/-- House.trade (II)V -/
def jc19 : jCode := [[(0, (.aload_n 0, 1)), (1, (.getfield 44, 3)), (4, (.aload_n 0, 1)), (5, (.iload_n 1, 1)), (6, (.invokevirtual 99, 3)), (9, (.aload_n 0, 1)), (10, (.iload_n 2, 1)), (11, (.invokevirtual 99, 3)), (14, (.invokevirtual 102, 3))], [(17, (.return_, 1))]]
/-- House.canEngage (I)Z -/
def jc20 : jCode := [[(0, (.aload_n 0, 1)), (1, (.getfield 32, 3)), (4, (.iload_n 1, 1)), (5, (.invokevirtual 105, 3)), (8, (.iconst 3, 1)), (9, (.if_icmp .eq 15, 3)), (12, (.aload_n 0, 1)), (13, (.getfield 63, 3))], [(16, (.iconst 5, 1)), (17, (.if_icmp .lt 7, 3)), (20, (.iconst 1, 1)), (21, (.goto 4, 3)), (24, (.iconst 0, 1)), (25, (.ireturn, 1))]]
/-- House.engage (I)V -/
def jc21 : jCode := [[(0, (.aload_n 0, 1)), (1, (.getfield 32, 3)), (4, (.iload_n 1, 1)), (5, (.iconst 3, 1)), (6, (.invokevirtual 76, 3)), (9, (.aload_n 0, 1)), (10, (.dup, 1)), (11, (.getfield 63, 3)), (14, (.iconst 5, 1)), (15, (.isub, 1))], [(16, (.putfield 63, 3)), (19, (.return_, 1))]]
/-- House.claqueurs ()I -/
def jc22 : jCode := [[(0, (.iconst 0, 1)), (1, (.istore_n 1, 1)), (2, (.iconst 0, 1)), (3, (.istore_n 2, 1)), (4, (.iload_n 2, 1)), (5, (.aload_n 0, 1)), (6, (.getfield 57, 3)), (9, (.if_icmp .ge 24, 3)), (12, (.aload_n 0, 1)), (13, (.getfield 32, 3))], [(16, (.iload_n 2, 1)), (17, (.invokevirtual 105, 3)), (20, (.iconst 3, 1)), (21, (.if_icmp .ne 6, 3)), (24, (.iinc 1 1, 3)), (27, (.iinc 2 1, 3)), (30, (.goto (-26), 3))], [(33, (.iload_n 1, 1)), (34, (.ireturn, 1))]]
/-- House.bindings ()I -/
def jc23 : jCode := [[(0, (.iconst 0, 1)), (1, (.istore_n 1, 1)), (2, (.iconst 0, 1)), (3, (.istore_n 2, 1)), (4, (.iload_n 2, 1)), (5, (.aload_n 0, 1)), (6, (.getfield 57, 3)), (9, (.if_icmp .ge 23, 3)), (12, (.iload_n 1, 1)), (13, (.aload_n 0, 1)), (14, (.getfield 41, 3))], [(17, (.iload_n 2, 1)), (18, (.invokevirtual 105, 3)), (21, (.invokestatic 108, 3)), (24, (.iadd, 1)), (25, (.istore_n 1, 1)), (26, (.iinc 2 1, 3)), (29, (.goto (-25), 3))], [(32, (.iload_n 1, 1)), (33, (.ireturn, 1))]]
/-- House.clauseBit (I)I -/
def jc24 : jCode := [[(0, (.aload_n 0, 1)), (1, (.getfield 23, 3)), (4, (.iload_n 1, 1)), (5, (.invokevirtual 105, 3)), (8, (.istore_n 2, 1)), (9, (.iload_n 2, 1)), (10, (.bipush 8, 2)), (12, (.if_icmp .ne 7, 3)), (15, (.iconst 0, 1))], [(16, (.goto 6, 3)), (19, (.iconst 1, 1)), (20, (.iload_n 2, 1)), (21, (.ishl, 1)), (22, (.ireturn, 1))]]
/-- House.canOpen ()Z -/
def jc25 : jCode := [[(0, (.aload_n 0, 1)), (1, (.getfield 60, 3)), (4, (.ifCond .le 18, 3)), (7, (.aload_n 0, 1)), (8, (.getfield 63, 3)), (11, (.aload_n 0, 1)), (12, (.invokevirtual 113, 3)), (15, (.if_icmp .lt 7, 3))], [(18, (.iconst 1, 1)), (19, (.goto 4, 3)), (22, (.iconst 0, 1)), (23, (.ireturn, 1))]]
/-- House.settle (LPlayedLaws$Night;)V -/
def jc26 : jCode := [[(0, (.aload_n 1, 1)), (1, (.aload_n 0, 1)), (2, (.invokevirtual 117, 3)), (5, (.ifCond .eq 18, 3)), (8, (.aload_n 0, 1)), (9, (.aload_n 1, 1)), (10, (.invokevirtual 123, 3)), (13, (.aload_n 0, 1)), (14, (.dup, 1)), (15, (.getfield 69, 3))], [(18, (.iconst 1, 1)), (19, (.iadd, 1)), (20, (.putfield 69, 3)), (23, (.aload_n 0, 1)), (24, (.invokevirtual 113, 3)), (27, (.istore_n 2, 1)), (28, (.aload_n 0, 1)), (29, (.getfield 57, 3))], [(32, (.iload_n 2, 1)), (33, (.isub, 1)), (34, (.aload_n 1, 1)), (35, (.getfield 127, 3)), (38, (.isub, 1)), (39, (.istore_n 3, 1)), (40, (.aload_n 0, 1)), (41, (.sipush 999, 3)), (44, (.aload_n 0, 1)), (45, (.getfield 63, 3))], [(48, (.iload_n 2, 1)), (49, (.isub, 1)), (50, (.iload_n 3, 1)), (51, (.iadd, 1)), (52, (.invokestatic 130, 3)), (55, (.putfield 63, 3)), (58, (.aload_n 0, 1)), (59, (.dup, 1)), (60, (.getfield 66, 3)), (63, (.iconst 1, 1))], [(64, (.iadd, 1)), (65, (.putfield 66, 3)), (68, (.aload_n 0, 1)), (69, (.invokevirtual 135, 3)), (72, (.return_, 1))]]
/-- House.tire ()V -/
def jc27 : jCode := [[(0, (.iconst 0, 1)), (1, (.istore_n 1, 1)), (2, (.iload_n 1, 1)), (3, (.aload_n 0, 1)), (4, (.getfield 60, 3)), (7, (.if_icmp .ge 36, 3)), (10, (.aload_n 0, 1)), (11, (.getfield 29, 3)), (14, (.iload_n 1, 1)), (15, (.invokevirtual 105, 3))], [(18, (.istore_n 2, 1)), (19, (.aload_n 0, 1)), (20, (.getfield 26, 3)), (23, (.iload_n 2, 1)), (24, (.aload_n 0, 1)), (25, (.getfield 26, 3)), (28, (.iload_n 2, 1)), (29, (.invokevirtual 105, 3))], [(32, (.iconst 1, 1)), (33, (.iadd, 1)), (34, (.invokevirtual 76, 3)), (37, (.iinc 1 1, 3)), (40, (.goto (-38), 3)), (43, (.return_, 1))]]
/-- House.bindAll (LPlayedLaws$Night;)V -/
def jc28 : jCode := [[(0, (.iconst 0, 1)), (1, (.istore_n 2, 1)), (2, (.iload_n 2, 1)), (3, (.aload_n 0, 1)), (4, (.getfield 60, 3)), (7, (.if_icmp .ge 82, 3)), (10, (.aload_n 0, 1)), (11, (.getfield 14, 3)), (14, (.aload_n 0, 1)), (15, (.getfield 29, 3))], [(18, (.iload_n 2, 1)), (19, (.invokevirtual 105, 3)), (22, (.invokevirtual 105, 3)), (25, (.istore_n 3, 1)), (26, (.aload_n 0, 1)), (27, (.aload_n 0, 1)), (28, (.getfield 29, 3)), (31, (.iload_n 2, 1))], [(32, (.invokevirtual 105, 3)), (35, (.invokevirtual 138, 3)), (38, (.istore 4, 2)), (40, (.iconst 0, 1)), (41, (.istore 5, 2)), (43, (.iload 5, 2)), (45, (.aload_n 0, 1)), (46, (.getfield 57, 3))], [(49, (.if_icmp .ge 34, 3)), (52, (.aload_n 1, 1)), (53, (.getfield 141, 3)), (56, (.iload 5, 2)), (58, (.invokevirtual 105, 3)), (61, (.iload_n 2, 1)), (62, (.invokestatic 144, 3))], [(65, (.ifCond .eq 12, 3)), (68, (.aload_n 0, 1)), (69, (.iload 5, 2)), (71, (.iload_n 3, 1)), (72, (.iload 4, 2)), (74, (.invokevirtual 148, 3)), (77, (.iinc 5 1, 3))], [(80, (.goto (-37), 3)), (83, (.iinc 2 1, 3)), (86, (.goto (-84), 3)), (89, (.return_, 1))]]
/-- House.bind (III)V -/
def jc29 : jCode := [[(0, (.iload_n 2, 1)), (1, (.iconst 3, 1)), (2, (.if_icmp .ne 26, 3)), (5, (.aload_n 0, 1)), (6, (.getfield 41, 3)), (9, (.iload_n 1, 1)), (10, (.aload_n 0, 1)), (11, (.getfield 41, 3)), (14, (.iload_n 1, 1)), (15, (.invokevirtual 105, 3))], [(18, (.iload_n 3, 1)), (19, (.iconst (-1), 1)), (20, (.ixor, 1)), (21, (.iand, 1)), (22, (.invokevirtual 76, 3)), (25, (.goto 38, 3)), (28, (.iload_n 2, 1)), (29, (.iconst 1, 1)), (30, (.if_icmp .ne 15, 3))], [(33, (.aload_n 0, 1)), (34, (.getfield 35, 3)), (37, (.iload_n 1, 1)), (38, (.invokevirtual 105, 3)), (41, (.iconst 1, 1)), (42, (.if_icmp .ne 21, 3)), (45, (.aload_n 0, 1)), (46, (.getfield 41, 3))], [(49, (.iload_n 1, 1)), (50, (.aload_n 0, 1)), (51, (.getfield 41, 3)), (54, (.iload_n 1, 1)), (55, (.invokevirtual 105, 3)), (58, (.iload_n 3, 1)), (59, (.ior, 1)), (60, (.invokevirtual 76, 3)), (63, (.return_, 1))]]
/-- Houses.init (I)V -/
def jc30 : jCode := [[(0, (.aload_n 0, 1)), (1, (.invokespecial 1, 3)), (4, (.aload_n 0, 1)), (5, (.iload_n 1, 1)), (6, (.iconst 1, 1)), (7, (.if_icmp .ge 7, 3)), (10, (.iconst 1, 1)), (11, (.goto 4, 3)), (14, (.iload_n 1, 1)), (15, (.anewarray 7, 3))], [(18, (.putfield 9, 3)), (21, (.iconst 0, 1)), (22, (.istore_n 2, 1)), (23, (.iload_n 2, 1)), (24, (.aload_n 0, 1)), (25, (.getfield 9, 3)), (28, (.arraylength, 1)), (29, (.if_icmp .ge 22, 3))], [(32, (.aload_n 0, 1)), (33, (.getfield 9, 3)), (36, (.iload_n 2, 1)), (37, (.new 7, 3)), (40, (.dup, 1)), (41, (.invokespecial 15, 3)), (44, (.aastore, 1)), (45, (.iinc 2 1, 3))], [(48, (.goto (-25), 3)), (51, (.return_, 1))]]
/-- Houses.push (LPlayedLaws$House;)V -/
def jc31 : jCode := [[(0, (.aload_n 0, 1)), (1, (.getfield 16, 3)), (4, (.ifCond .lt 27, 3)), (7, (.aload_n 0, 1)), (8, (.getfield 16, 3)), (11, (.aload_n 0, 1)), (12, (.getfield 9, 3)), (15, (.arraylength, 1))], [(16, (.if_icmp .ge 15, 3)), (19, (.aload_n 0, 1)), (20, (.getfield 9, 3)), (23, (.aload_n 0, 1)), (24, (.getfield 16, 3)), (27, (.aaload, 1)), (28, (.goto 4, 3)), (31, (.aconst_null, 1))], [(32, (.astore_n 2, 1)), (33, (.aload_n 2, 1)), (34, (.ifnonnull 4, 3)), (37, (.return_, 1)), (38, (.aload_n 2, 1)), (39, (.aload_n 1, 1)), (40, (.invokevirtual 20, 3)), (43, (.aload_n 0, 1)), (44, (.aload_n 0, 1)), (45, (.getfield 16, 3))], [(48, (.iconst 1, 1)), (49, (.iadd, 1)), (50, (.aload_n 0, 1)), (51, (.getfield 9, 3)), (54, (.arraylength, 1)), (55, (.if_icmp .ge 12, 3)), (58, (.aload_n 0, 1)), (59, (.getfield 16, 3)), (62, (.iconst 1, 1)), (63, (.iadd, 1))], [(64, (.goto 4, 3)), (67, (.iconst 0, 1)), (68, (.putfield 16, 3)), (71, (.aload_n 0, 1)), (72, (.aload_n 0, 1)), (73, (.getfield 9, 3)), (76, (.arraylength, 1)), (77, (.aload_n 0, 1)), (78, (.getfield 24, 3))], [(81, (.iconst 1, 1)), (82, (.iadd, 1)), (83, (.invokestatic 27, 3)), (86, (.putfield 24, 3)), (89, (.return_, 1))]]
/-- Houses.pop (LPlayedLaws$House;)V -/
def jc32 : jCode := [[(0, (.aload_n 0, 1)), (1, (.getfield 16, 3)), (4, (.ifCond .le 12, 3)), (7, (.aload_n 0, 1)), (8, (.getfield 16, 3)), (11, (.iconst 1, 1)), (12, (.isub, 1)), (13, (.goto 10, 3))], [(16, (.aload_n 0, 1)), (17, (.getfield 9, 3)), (20, (.arraylength, 1)), (21, (.iconst 1, 1)), (22, (.isub, 1)), (23, (.istore_n 2, 1)), (24, (.iload_n 2, 1)), (25, (.ifCond .lt 21, 3)), (28, (.iload_n 2, 1)), (29, (.aload_n 0, 1)), (30, (.getfield 9, 3))], [(33, (.arraylength, 1)), (34, (.if_icmp .ge 12, 3)), (37, (.aload_n 0, 1)), (38, (.getfield 9, 3)), (41, (.iload_n 2, 1)), (42, (.aaload, 1)), (43, (.goto 4, 3)), (46, (.aconst_null, 1)), (47, (.astore_n 3, 1))], [(48, (.aload_n 3, 1)), (49, (.ifnull 10, 3)), (52, (.aload_n 0, 1)), (53, (.getfield 24, 3)), (56, (.ifCond .ne 4, 3)), (59, (.return_, 1)), (60, (.aload_n 1, 1)), (61, (.aload_n 3, 1)), (62, (.invokevirtual 20, 3))], [(65, (.aload_n 0, 1)), (66, (.iload_n 2, 1)), (67, (.putfield 16, 3)), (70, (.aload_n 0, 1)), (71, (.dup, 1)), (72, (.getfield 24, 3)), (75, (.iconst 1, 1)), (76, (.isub, 1)), (77, (.putfield 24, 3))], [(80, (.return_, 1))]]
/-- Lineup.init ()V -/
def jc33 : jCode := [[(0, (.aload_n 0, 1)), (1, (.invokespecial 3, 3)), (4, (.aload_n 0, 1)), (5, (.new 9, 3)), (8, (.dup, 1)), (9, (.invokespecial 11, 3)), (12, (.putfield 12, 3)), (15, (.aload_n 0, 1))], [(16, (.new 18, 3)), (19, (.dup, 1)), (20, (.invokespecial 20, 3)), (23, (.putfield 21, 3)), (26, (.aload_n 0, 1)), (27, (.new 25, 3)), (30, (.dup, 1)), (31, (.bipush 7, 2))], [(33, (.invokespecial 27, 3)), (36, (.putfield 30, 3)), (39, (.aload_n 0, 1)), (40, (.bipush (-4), 2)), (42, (.putfield 34, 3)), (45, (.return_, 1))]]
/-- Lineup.find (LPlayedLaws$House;I)V -/
def jc34 : jCode := [[(0, (.iload_n 2, 1)), (1, (.aload_n 0, 1)), (2, (.getfield 34, 3)), (5, (.if_icmp .ne 4, 3)), (8, (.return_, 1)), (9, (.aload_n 0, 1)), (10, (.iload_n 2, 1)), (11, (.putfield 34, 3)), (14, (.aload_n 0, 1)), (15, (.aload_n 1, 1))], [(16, (.invokevirtual 38, 3)), (19, (.istore_n 3, 1)), (20, (.aload_n 0, 1)), (21, (.getfield 12, 3)), (24, (.aload_n 1, 1)), (25, (.invokevirtual 42, 3)), (28, (.aload_n 0, 1)), (29, (.getfield 12, 3))], [(32, (.getfield 46, 3)), (35, (.invokevirtual 49, 3)), (38, (.aload_n 0, 1)), (39, (.bipush (-4), 2)), (41, (.putfield 52, 3)), (44, (.iconst 1, 1)), (45, (.istore 4, 2)), (47, (.iconst 0, 1))], [(48, (.istore 5, 2)), (50, (.iload 5, 2)), (52, (.sipush 5040, 3)), (55, (.if_icmp .ge 32, 3)), (58, (.iload 4, 2)), (60, (.ifCond .eq 27, 3)), (63, (.aload_n 0, 1))], [(64, (.getfield 52, 3)), (67, (.iload_n 3, 1)), (68, (.if_icmp .ge 19, 3)), (71, (.aload_n 0, 1)), (72, (.invokevirtual 55, 3)), (75, (.aload_n 0, 1)), (76, (.invokevirtual 58, 3)), (79, (.istore 4, 2))], [(81, (.iinc 5 1, 3)), (84, (.goto (-34), 3)), (87, (.return_, 1))]]
/-- Lineup.patientAlone (LPlayedLaws$House;)I -/
def jc35 : jCode := [[(0, (.iconst 0, 1)), (1, (.istore_n 2, 1)), (2, (.aload_n 0, 1)), (3, (.getfield 12, 3)), (6, (.aload_n 1, 1)), (7, (.invokevirtual 42, 3)), (10, (.aload_n 0, 1)), (11, (.getfield 12, 3)), (14, (.iconst 1, 1)), (15, (.putfield 62, 3))], [(18, (.iconst 0, 1)), (19, (.istore_n 3, 1)), (20, (.iload_n 3, 1)), (21, (.aload_n 1, 1)), (22, (.getfield 62, 3)), (25, (.if_icmp .ge 46, 3)), (28, (.aload_n 0, 1)), (29, (.getfield 12, 3))], [(32, (.getfield 46, 3)), (35, (.iconst 0, 1)), (36, (.iload_n 3, 1)), (37, (.invokevirtual 65, 3)), (40, (.aload_n 0, 1)), (41, (.getfield 21, 3)), (44, (.aload_n 0, 1)), (45, (.getfield 12, 3))], [(48, (.iconst 0, 1)), (49, (.invokevirtual 69, 3)), (52, (.aload_n 0, 1)), (53, (.getfield 21, 3)), (56, (.getfield 73, 3)), (59, (.ifCond .ne 6, 3)), (62, (.iinc 2 1, 3))], [(65, (.iinc 3 1, 3)), (68, (.goto (-48), 3)), (71, (.iload_n 2, 1)), (72, (.ireturn, 1))]]
/-- Lineup.tryLine ()V -/
def jc36 : jCode := [[(0, (.aload_n 0, 1)), (1, (.getfield 21, 3)), (4, (.aload_n 0, 1)), (5, (.getfield 12, 3)), (8, (.iconst 0, 1)), (9, (.invokevirtual 69, 3)), (12, (.aload_n 0, 1)), (13, (.getfield 12, 3))], [(16, (.getfield 62, 3)), (19, (.aload_n 0, 1)), (20, (.getfield 21, 3)), (23, (.getfield 73, 3)), (26, (.isub, 1)), (27, (.istore_n 1, 1)), (28, (.iload_n 1, 1)), (29, (.aload_n 0, 1)), (30, (.getfield 52, 3))], [(33, (.if_icmp .gt 4, 3)), (36, (.return_, 1)), (37, (.aload_n 0, 1)), (38, (.iload_n 1, 1)), (39, (.putfield 52, 3)), (42, (.aload_n 0, 1)), (43, (.getfield 30, 3)), (46, (.aload_n 0, 1)), (47, (.getfield 12, 3))], [(50, (.getfield 46, 3)), (53, (.invokevirtual 76, 3)), (56, (.return_, 1))]]
/-- Lineup.nextLine ()Z -/
def jc37 : jCode := [[(0, (.aload_n 0, 1)), (1, (.getfield 12, 3)), (4, (.getfield 46, 3)), (7, (.astore_n 1, 1)), (8, (.aload_n 0, 1)), (9, (.getfield 12, 3)), (12, (.getfield 62, 3)), (15, (.iconst 2, 1))], [(16, (.isub, 1)), (17, (.istore_n 2, 1)), (18, (.iload_n 2, 1)), (19, (.ifCond .lt 24, 3)), (22, (.aload_n 1, 1)), (23, (.iload_n 2, 1)), (24, (.invokevirtual 79, 3)), (27, (.aload_n 1, 1)), (28, (.iload_n 2, 1)), (29, (.iconst 1, 1)), (30, (.iadd, 1)), (31, (.invokevirtual 79, 3))], [(34, (.if_icmp .le 9, 3)), (37, (.iinc 2 (-1), 3)), (40, (.goto (-22), 3)), (43, (.iload_n 2, 1)), (44, (.ifCond .ge 5, 3)), (47, (.iconst 0, 1))], [(48, (.ireturn, 1)), (49, (.aload_n 0, 1)), (50, (.getfield 12, 3)), (53, (.getfield 62, 3)), (56, (.iconst 1, 1)), (57, (.isub, 1)), (58, (.istore_n 3, 1)), (59, (.iload_n 3, 1)), (60, (.iload_n 2, 1)), (61, (.if_icmp .le 22, 3))], [(64, (.aload_n 1, 1)), (65, (.iload_n 3, 1)), (66, (.invokevirtual 79, 3)), (69, (.aload_n 1, 1)), (70, (.iload_n 2, 1)), (71, (.invokevirtual 79, 3)), (74, (.if_icmp .ge 9, 3)), (77, (.iinc 3 (-1), 3))], [(80, (.goto (-21), 3)), (83, (.aload_n 1, 1)), (84, (.iload_n 2, 1)), (85, (.iload_n 3, 1)), (86, (.invokevirtual 83, 3)), (89, (.iload_n 2, 1)), (90, (.iconst 1, 1)), (91, (.iadd, 1)), (92, (.istore 4, 2)), (94, (.aload_n 0, 1)), (95, (.getfield 12, 3))], [(98, (.getfield 62, 3)), (101, (.iconst 1, 1)), (102, (.isub, 1)), (103, (.istore 5, 2)), (105, (.iload 4, 2)), (107, (.iload 5, 2)), (109, (.if_icmp .ge 20, 3))], [(112, (.aload_n 1, 1)), (113, (.iload 4, 2)), (115, (.iload 5, 2)), (117, (.invokevirtual 83, 3)), (120, (.iinc 4 1, 3)), (123, (.iinc 5 (-1), 3)), (126, (.goto (-21), 3))], [(129, (.iconst 1, 1)), (130, (.ireturn, 1))]]
/-- Night.init ()V -/
def jc38 : jCode := [[(0, (.aload_n 0, 1)), (1, (.invokespecial 3, 3)), (4, (.aload_n 0, 1)), (5, (.new 9, 3)), (8, (.dup, 1)), (9, (.bipush 7, 2)), (11, (.invokespecial 11, 3)), (14, (.putfield 14, 3))], [(17, (.aload_n 0, 1)), (18, (.new 9, 3)), (21, (.dup, 1)), (22, (.bipush 7, 2)), (24, (.invokespecial 11, 3)), (27, (.putfield 20, 3)), (30, (.aload_n 0, 1)), (31, (.new 9, 3))], [(34, (.dup, 1)), (35, (.bipush 7, 2)), (37, (.invokespecial 11, 3)), (40, (.putfield 23, 3)), (43, (.aload_n 0, 1)), (44, (.new 9, 3)), (47, (.dup, 1))], [(48, (.bipush 7, 2)), (50, (.invokespecial 11, 3)), (53, (.putfield 26, 3)), (56, (.aload_n 0, 1)), (57, (.new 9, 3)), (60, (.dup, 1)), (61, (.bipush 7, 2)), (63, (.invokespecial 11, 3))], [(66, (.putfield 29, 3)), (69, (.return_, 1))]]
/-- Night.begin ()V -/
def jc39 : jCode := [[(0, (.aload_n 0, 1)), (1, (.getfield 14, 3)), (4, (.invokevirtual 32, 3)), (7, (.aload_n 0, 1)), (8, (.getfield 20, 3)), (11, (.invokevirtual 32, 3)), (14, (.aload_n 0, 1)), (15, (.getfield 23, 3))], [(18, (.invokevirtual 32, 3)), (21, (.aload_n 0, 1)), (22, (.getfield 26, 3)), (25, (.invokevirtual 32, 3)), (28, (.aload_n 0, 1)), (29, (.getfield 29, 3))], [(32, (.invokevirtual 32, 3)), (35, (.aload_n 0, 1)), (36, (.iconst 0, 1)), (37, (.putfield 35, 3)), (40, (.return_, 1))]]
/-- Night.copy (LPlayedLaws$Night;)V -/
def jc40 : jCode := [[(0, (.aload_n 0, 1)), (1, (.getfield 14, 3)), (4, (.aload_n 1, 1)), (5, (.getfield 14, 3)), (8, (.invokevirtual 39, 3)), (11, (.aload_n 0, 1)), (12, (.getfield 20, 3)), (15, (.aload_n 1, 1))], [(16, (.getfield 20, 3)), (19, (.invokevirtual 39, 3)), (22, (.aload_n 0, 1)), (23, (.getfield 23, 3)), (26, (.aload_n 1, 1)), (27, (.getfield 23, 3)), (30, (.invokevirtual 39, 3))], [(33, (.aload_n 0, 1)), (34, (.getfield 26, 3)), (37, (.aload_n 1, 1)), (38, (.getfield 26, 3)), (41, (.invokevirtual 39, 3)), (44, (.aload_n 0, 1)), (45, (.getfield 29, 3))], [(48, (.aload_n 1, 1)), (49, (.getfield 29, 3)), (52, (.invokevirtual 39, 3)), (55, (.aload_n 0, 1)), (56, (.aload_n 1, 1)), (57, (.getfield 35, 3)), (60, (.putfield 35, 3)), (63, (.return_, 1))]]
/-- Night.unfold (LPlayedLaws$House;I)V -/
def jc41 : jCode := [[(0, (.aload_n 0, 1)), (1, (.invokevirtual 43, 3)), (4, (.iconst 0, 1)), (5, (.istore_n 3, 1)), (6, (.iload_n 3, 1)), (7, (.aload_n 1, 1)), (8, (.getfield 46, 3)), (11, (.if_icmp .ge 24, 3)), (14, (.aload_n 0, 1)), (15, (.aload_n 1, 1))], [(16, (.iload_n 3, 1)), (17, (.iload_n 3, 1)), (18, (.ifCond .ne 7, 3)), (21, (.iload_n 2, 1)), (22, (.goto 4, 3)), (25, (.iconst 0, 1)), (26, (.invokevirtual 51, 3)), (29, (.iinc 3 1, 3))], [(32, (.goto (-26), 3)), (35, (.return_, 1))]]
/-- Night.stage (LPlayedLaws$House;II)V -/
def jc42 : jCode := [[(0, (.aload_n 0, 1)), (1, (.aload_n 1, 1)), (2, (.iload_n 2, 1)), (3, (.invokevirtual 55, 3)), (6, (.iconst 0, 1)), (7, (.istore 4, 2)), (9, (.iload 4, 2)), (11, (.aload_n 1, 1)), (12, (.getfield 59, 3)), (15, (.if_icmp .ge 33, 3))], [(18, (.iload_n 3, 1)), (19, (.aload_n 1, 1)), (20, (.getfield 62, 3)), (23, (.iload 4, 2)), (25, (.invokevirtual 65, 3)), (28, (.invokestatic 69, 3)), (31, (.ifCond .eq 11, 3))], [(34, (.aload_n 0, 1)), (35, (.aload_n 1, 1)), (36, (.iload 4, 2)), (38, (.iload_n 2, 1)), (39, (.invokevirtual 73, 3)), (42, (.iinc 4 1, 3)), (45, (.goto (-36), 3))], [(48, (.iconst 0, 1)), (49, (.istore 4, 2)), (51, (.iload 4, 2)), (53, (.aload_n 1, 1)), (54, (.getfield 59, 3)), (57, (.if_icmp .ge 64, 3)), (60, (.aload_n 0, 1)), (61, (.getfield 29, 3))], [(64, (.iload 4, 2)), (66, (.invokevirtual 65, 3)), (69, (.ifCond .eq 6, 3)), (72, (.goto 43, 3)), (75, (.aload_n 0, 1)), (76, (.aload_n 1, 1)), (77, (.aload_n 1, 1)), (78, (.getfield 62, 3))], [(81, (.iload 4, 2)), (83, (.invokevirtual 65, 3)), (86, (.aload_n 1, 1)), (87, (.getfield 76, 3)), (90, (.iload_n 2, 1)), (91, (.invokevirtual 65, 3)), (94, (.invokevirtual 79, 3))], [(97, (.aload_n 0, 1)), (98, (.aload_n 1, 1)), (99, (.iload 4, 2)), (101, (.invokevirtual 82, 3)), (104, (.ifCond .eq 11, 3)), (107, (.aload_n 0, 1)), (108, (.aload_n 1, 1)), (109, (.iload 4, 2)), (111, (.iload_n 2, 1))], [(112, (.invokevirtual 73, 3)), (115, (.iinc 4 1, 3)), (118, (.goto (-67), 3)), (121, (.return_, 1))]]
/-- Night.carries (LPlayedLaws$House;)Z -/
def jc43 : jCode := [[(0, (.aload_n 1, 1)), (1, (.getfield 46, 3)), (4, (.ifCond .le 27, 3)), (7, (.iconst 3, 1)), (8, (.aload_n 1, 1)), (9, (.getfield 59, 3)), (12, (.aload_n 0, 1)), (13, (.getfield 35, 3))], [(16, (.isub, 1)), (17, (.imul, 1)), (18, (.iconst 2, 1)), (19, (.aload_n 1, 1)), (20, (.getfield 59, 3)), (23, (.imul, 1)), (24, (.if_icmp .lt 7, 3)), (27, (.iconst 1, 1)), (28, (.goto 4, 3)), (31, (.iconst 0, 1))], [(32, (.ireturn, 1))]]
/-- Night.watch (LPlayedLaws$House;I)V -/
def jc44 : jCode := [[(0, (.iconst 0, 1)), (1, (.istore_n 3, 1)), (2, (.iload_n 3, 1)), (3, (.aload_n 1, 1)), (4, (.getfield 59, 3)), (7, (.if_icmp .ge 51, 3)), (10, (.aload_n 0, 1)), (11, (.getfield 20, 3)), (14, (.iload_n 3, 1)), (15, (.invokevirtual 65, 3))], [(18, (.ifCond .ne 34, 3)), (21, (.aload_n 0, 1)), (22, (.getfield 23, 3)), (25, (.iload_n 3, 1)), (26, (.invokevirtual 65, 3)), (29, (.ifCond .ne 23, 3))], [(32, (.aload_n 0, 1)), (33, (.getfield 26, 3)), (36, (.iload_n 3, 1)), (37, (.aload_n 0, 1)), (38, (.getfield 26, 3)), (41, (.iload_n 3, 1)), (42, (.invokevirtual 65, 3)), (45, (.iconst 1, 1)), (46, (.iload_n 2, 1)), (47, (.ishl, 1))], [(48, (.ior, 1)), (49, (.invokevirtual 86, 3)), (52, (.iinc 3 1, 3)), (55, (.goto (-53), 3)), (58, (.return_, 1))]]
/-- Night.leave (LPlayedLaws$House;II)V -/
def jc45 : jCode := [[(0, (.aload_n 0, 1)), (1, (.getfield 20, 3)), (4, (.aload_n 1, 1)), (5, (.getfield 62, 3)), (8, (.iload_n 2, 1)), (9, (.invokevirtual 65, 3)), (12, (.iload_n 3, 1)), (13, (.iconst 1, 1)), (14, (.iadd, 1)), (15, (.invokevirtual 86, 3))], [(18, (.aload_n 0, 1)), (19, (.getfield 29, 3)), (22, (.iload_n 2, 1)), (23, (.iconst 1, 1)), (24, (.invokevirtual 86, 3)), (27, (.aload_n 0, 1)), (28, (.dup, 1)), (29, (.getfield 35, 3))], [(32, (.iconst 1, 1)), (33, (.iadd, 1)), (34, (.putfield 35, 3)), (37, (.return_, 1))]]
/-- Night.bore (LPlayedLaws$House;II)V -/
def jc46 : jCode := [[(0, (.aload_n 1, 1)), (1, (.getfield 90, 3)), (4, (.iload_n 3, 1)), (5, (.invokevirtual 65, 3)), (8, (.istore 4, 2)), (10, (.aload_n 0, 1)), (11, (.getfield 14, 3)), (14, (.iload_n 2, 1)), (15, (.invokevirtual 65, 3))], [(18, (.istore 5, 2)), (20, (.aload_n 1, 1)), (21, (.getfield 93, 3)), (24, (.iload_n 2, 1)), (25, (.invokevirtual 65, 3)), (28, (.istore 6, 2)), (30, (.aload_n 1, 1)), (31, (.getfield 96, 3))], [(34, (.iload_n 2, 1)), (35, (.invokevirtual 65, 3)), (38, (.aload_n 1, 1)), (39, (.getfield 99, 3)), (42, (.iload_n 3, 1)), (43, (.invokevirtual 65, 3)), (46, (.if_icmp .ne 25, 3))], [(49, (.aload_n 0, 1)), (50, (.getfield 14, 3)), (53, (.iload_n 2, 1)), (54, (.iconst 0, 1)), (55, (.iload 5, 2)), (57, (.iload 4, 2)), (59, (.iconst 2, 1)), (60, (.idiv, 1)), (61, (.isub, 1)), (62, (.invokestatic 102, 3))], [(65, (.invokevirtual 86, 3)), (68, (.goto 48, 3)), (71, (.iload 4, 2)), (73, (.iconst 2, 1)), (74, (.iconst 3, 1)), (75, (.aload_n 1, 1)), (76, (.getfield 108, 3)), (79, (.iload_n 3, 1))], [(80, (.invokevirtual 65, 3)), (83, (.invokestatic 111, 3)), (86, (.imul, 1)), (87, (.iadd, 1)), (88, (.istore 7, 2)), (90, (.aload_n 0, 1)), (91, (.getfield 14, 3)), (94, (.iload_n 2, 1)), (95, (.iload 5, 2))], [(97, (.iload 6, 2)), (99, (.iconst 2, 1)), (100, (.if_icmp .ne 10, 3)), (103, (.iconst 2, 1)), (104, (.iload 7, 2)), (106, (.imul, 1)), (107, (.goto 5, 3)), (110, (.iload 7, 2))], [(112, (.iadd, 1)), (113, (.invokevirtual 86, 3)), (116, (.iload 6, 2)), (118, (.iconst 1, 1)), (119, (.if_icmp .ne 35, 3)), (122, (.aload_n 0, 1)), (123, (.getfield 23, 3)), (126, (.iload_n 2, 1)), (127, (.aload_n 0, 1))], [(128, (.getfield 14, 3)), (131, (.iload_n 2, 1)), (132, (.invokevirtual 65, 3)), (135, (.aload_n 1, 1)), (136, (.getfield 114, 3)), (139, (.iload_n 2, 1)), (140, (.invokevirtual 65, 3)), (143, (.if_icmp .le 7, 3))], [(146, (.iconst 1, 1)), (147, (.goto 4, 3)), (150, (.iconst 0, 1)), (151, (.invokevirtual 86, 3)), (154, (.return_, 1))]]
/-- Night.isDrivenOut (LPlayedLaws$House;I)Z -/
def jc47 : jCode := [[(0, (.aload_n 1, 1)), (1, (.getfield 62, 3)), (4, (.iload_n 2, 1)), (5, (.invokevirtual 65, 3)), (8, (.istore_n 3, 1)), (9, (.aload_n 1, 1)), (10, (.getfield 93, 3)), (13, (.iload_n 3, 1)), (14, (.invokevirtual 65, 3))], [(17, (.istore 4, 2)), (19, (.iload 4, 2)), (21, (.iconst 1, 1)), (22, (.if_icmp .eq 9, 3)), (25, (.iload 4, 2)), (27, (.iconst 3, 1)), (28, (.if_icmp .ne 5, 3)), (31, (.iconst 0, 1))], [(32, (.ireturn, 1)), (33, (.aload_n 0, 1)), (34, (.getfield 29, 3)), (37, (.iload_n 2, 1)), (38, (.iconst 1, 1)), (39, (.isub, 1)), (40, (.invokevirtual 65, 3)), (43, (.aload_n 0, 1)), (44, (.getfield 29, 3)), (47, (.iload_n 2, 1))], [(48, (.iconst 1, 1)), (49, (.iadd, 1)), (50, (.invokevirtual 65, 3)), (53, (.iadd, 1)), (54, (.istore 5, 2)), (56, (.aload_n 0, 1)), (57, (.getfield 14, 3)), (60, (.iload_n 3, 1)), (61, (.invokevirtual 65, 3))], [(64, (.iconst 0, 1)), (65, (.aload_n 1, 1)), (66, (.getfield 114, 3)), (69, (.iload_n 3, 1)), (70, (.invokevirtual 65, 3)), (73, (.iconst 3, 1)), (74, (.iload 5, 2)), (76, (.imul, 1)), (77, (.isub, 1)), (78, (.invokestatic 102, 3))], [(81, (.if_icmp .le 7, 3)), (84, (.iconst 1, 1)), (85, (.goto 4, 3)), (88, (.iconst 0, 1)), (89, (.ireturn, 1))]]
/-- Outlook.init ()V -/
def jc48 : jCode := [[(0, (.aload_n 0, 1)), (1, (.invokespecial 3, 3)), (4, (.aload_n 0, 1)), (5, (.new 9, 3)), (8, (.dup, 1)), (9, (.invokespecial 11, 3)), (12, (.putfield 12, 3)), (15, (.aload_n 0, 1))], [(16, (.new 18, 3)), (19, (.dup, 1)), (20, (.invokespecial 20, 3)), (23, (.putfield 21, 3)), (26, (.return_, 1))]]
/-- Outlook.fewestClaques (LPlayedLaws$House;)I -/
def jc49 : jCode := [[(0, (.bipush (-4), 2)), (2, (.istore_n 2, 1)), (3, (.bipush 8, 2)), (5, (.istore_n 3, 1)), (6, (.iconst 0, 1)), (7, (.istore 4, 2)), (9, (.iload 4, 2)), (11, (.iconst 1, 1)), (12, (.aload_n 1, 1)), (13, (.getfield 25, 3))], [(16, (.ishl, 1)), (17, (.if_icmp .ge 89, 3)), (20, (.iload 4, 2)), (22, (.invokestatic 29, 3)), (25, (.iload_n 3, 1)), (26, (.if_icmp .lt 6, 3)), (29, (.goto 71, 3))], [(32, (.aload_n 0, 1)), (33, (.getfield 12, 3)), (36, (.aload_n 1, 1)), (37, (.invokevirtual 35, 3)), (40, (.iconst 0, 1)), (41, (.istore 5, 2)), (43, (.iload 5, 2)), (45, (.aload_n 1, 1)), (46, (.getfield 25, 3))], [(49, (.if_icmp .ge 32, 3)), (52, (.iload 4, 2)), (54, (.iload 5, 2)), (56, (.invokestatic 39, 3)), (59, (.ifCond .eq 16, 3)), (62, (.aload_n 0, 1)), (63, (.getfield 12, 3))], [(66, (.getfield 43, 3)), (69, (.iload 5, 2)), (71, (.iconst 3, 1)), (72, (.invokevirtual 47, 3)), (75, (.iinc 5 1, 3)), (78, (.goto (-35), 3))], [(81, (.aload_n 0, 1)), (82, (.invokevirtual 53, 3)), (85, (.ifCond .ne 6, 3)), (88, (.goto 12, 3)), (91, (.iload 4, 2)), (93, (.istore_n 2, 1)), (94, (.iload 4, 2))], [(96, (.invokestatic 29, 3)), (99, (.istore_n 3, 1)), (100, (.iinc 4 1, 3)), (103, (.goto (-94), 3)), (106, (.iload_n 2, 1)), (107, (.ireturn, 1))]]
/-- Outlook.fatalCut (LPlayedLaws$House;)I -/
def jc50 : jCode := [[(0, (.aload_n 0, 1)), (1, (.getfield 12, 3)), (4, (.aload_n 1, 1)), (5, (.invokevirtual 35, 3)), (8, (.aload_n 0, 1)), (9, (.invokevirtual 53, 3)), (12, (.ifCond .ne 6, 3)), (15, (.bipush (-4), 2))], [(17, (.ireturn, 1)), (18, (.iconst 0, 1)), (19, (.istore_n 2, 1)), (20, (.iload_n 2, 1)), (21, (.aload_n 1, 1)), (22, (.getfield 57, 3)), (25, (.if_icmp .ge 45, 3)), (28, (.aload_n 1, 1)), (29, (.iload_n 2, 1)), (30, (.invokevirtual 60, 3))], [(33, (.ifCond .ne 6, 3)), (36, (.goto 28, 3)), (39, (.aload_n 0, 1)), (40, (.getfield 12, 3)), (43, (.aload_n 1, 1)), (44, (.invokevirtual 35, 3)), (47, (.aload_n 0, 1))], [(48, (.getfield 12, 3)), (51, (.iload_n 2, 1)), (52, (.invokevirtual 64, 3)), (55, (.aload_n 0, 1)), (56, (.invokevirtual 53, 3)), (59, (.ifCond .ne 5, 3)), (62, (.iload_n 2, 1)), (63, (.ireturn, 1))], [(64, (.iinc 2 1, 3)), (67, (.goto (-47), 3)), (70, (.bipush (-4), 2)), (72, (.ireturn, 1))]]
/-- Outlook.nightsAhead (LPlayedLaws$House;)I -/
def jc51 : jCode := [[(0, (.aload_n 0, 1)), (1, (.getfield 12, 3)), (4, (.aload_n 1, 1)), (5, (.invokevirtual 35, 3)), (8, (.iconst 0, 1)), (9, (.istore_n 2, 1)), (10, (.iload_n 2, 1)), (11, (.bipush 30, 2)), (13, (.if_icmp .ge 25, 3))], [(16, (.aload_n 0, 1)), (17, (.invokevirtual 53, 3)), (20, (.ifCond .ne 5, 3)), (23, (.iload_n 2, 1)), (24, (.ireturn, 1)), (25, (.aload_n 0, 1)), (26, (.getfield 12, 3)), (29, (.invokevirtual 68, 3))], [(32, (.iinc 2 1, 3)), (35, (.goto (-25), 3)), (38, (.bipush 30, 2)), (40, (.ireturn, 1))]]
/-- Outlook.findAddition (LPlayedLaws$House;)V -/
def jc52 : jCode := [[(0, (.aload_n 0, 1)), (1, (.bipush (-4), 2)), (3, (.putfield 71, 3)), (6, (.aload_n 0, 1)), (7, (.bipush (-4), 2)), (9, (.putfield 74, 3)), (12, (.iconst 0, 1)), (13, (.istore_n 2, 1)), (14, (.iload_n 2, 1)), (15, (.aload_n 1, 1))], [(16, (.getfield 57, 3)), (19, (.if_icmp .ge 43, 3)), (22, (.aload_n 1, 1)), (23, (.iload_n 2, 1)), (24, (.invokevirtual 60, 3)), (27, (.ifCond .eq 6, 3)), (30, (.goto 26, 3))], [(33, (.iconst 0, 1)), (34, (.istore_n 3, 1)), (35, (.iload_n 3, 1)), (36, (.aload_n 1, 1)), (37, (.getfield 77, 3)), (40, (.if_icmp .gt 16, 3)), (43, (.aload_n 0, 1)), (44, (.aload_n 1, 1)), (45, (.iload_n 2, 1)), (46, (.iload_n 3, 1)), (47, (.invokevirtual 80, 3))], [(50, (.iinc 3 1, 3)), (53, (.goto (-18), 3)), (56, (.iinc 2 1, 3)), (59, (.goto (-45), 3)), (62, (.return_, 1))]]
/-- Outlook.tryAddition (LPlayedLaws$House;II)V -/
def jc53 : jCode := [[(0, (.aload_n 0, 1)), (1, (.getfield 12, 3)), (4, (.aload_n 1, 1)), (5, (.invokevirtual 35, 3)), (8, (.aload_n 0, 1)), (9, (.getfield 12, 3)), (12, (.iload_n 2, 1)), (13, (.iload_n 3, 1)), (14, (.invokevirtual 84, 3))], [(17, (.aload_n 0, 1)), (18, (.getfield 21, 3)), (21, (.aload_n 0, 1)), (22, (.getfield 12, 3)), (25, (.iconst 0, 1)), (26, (.invokevirtual 87, 3)), (29, (.aload_n 0, 1)), (30, (.getfield 21, 3))], [(33, (.aload_n 0, 1)), (34, (.getfield 12, 3)), (37, (.invokevirtual 91, 3)), (40, (.ifCond .eq 14, 3)), (43, (.aload_n 0, 1)), (44, (.getfield 12, 3)), (47, (.aload_n 0, 1))], [(48, (.getfield 21, 3)), (51, (.invokevirtual 95, 3)), (54, (.aload_n 0, 1)), (55, (.getfield 12, 3)), (58, (.invokevirtual 99, 3)), (61, (.istore 4, 2)), (63, (.iload 4, 2))], [(65, (.aload_n 0, 1)), (66, (.getfield 74, 3)), (69, (.if_icmp .gt 4, 3)), (72, (.return_, 1)), (73, (.aload_n 0, 1)), (74, (.iload 4, 2)), (76, (.putfield 74, 3)), (79, (.aload_n 0, 1))], [(80, (.bipush 10, 2)), (82, (.iload_n 2, 1)), (83, (.imul, 1)), (84, (.iload_n 3, 1)), (85, (.iadd, 1)), (86, (.putfield 71, 3)), (89, (.return_, 1))]]
/-- Outlook.fittingPatiences (LPlayedLaws$House;LPlayedLaws$Sights;I)I -/
def jc54 : jCode := [[(0, (.iconst 0, 1)), (1, (.istore 4, 2)), (3, (.aload_n 0, 1)), (4, (.getfield 12, 3)), (7, (.aload_n 1, 1)), (8, (.invokevirtual 35, 3)), (11, (.iconst 0, 1)), (12, (.istore 5, 2)), (14, (.iload 5, 2))], [(16, (.bipush 30, 2)), (18, (.if_icmp .gt 40, 3)), (21, (.aload_n 0, 1)), (22, (.getfield 12, 3)), (25, (.getfield 103, 3)), (28, (.iload_n 3, 1)), (29, (.iload 5, 2)), (31, (.invokevirtual 47, 3))], [(34, (.aload_n 0, 1)), (35, (.aload_n 2, 1)), (36, (.iload_n 3, 1)), (37, (.invokevirtual 106, 3)), (40, (.ifCond .eq 12, 3)), (43, (.iload 4, 2)), (45, (.iconst 1, 1)), (46, (.iload 5, 2))], [(48, (.ishl, 1)), (49, (.ior, 1)), (50, (.istore 4, 2)), (52, (.iinc 5 1, 3)), (55, (.goto (-41), 3)), (58, (.iload 4, 2)), (60, (.ireturn, 1))]]
/-- Outlook.fittingTastes (LPlayedLaws$House;LPlayedLaws$Sights;I)I -/
def jc55 : jCode := [[(0, (.iconst 0, 1)), (1, (.istore 4, 2)), (3, (.aload_n 0, 1)), (4, (.getfield 12, 3)), (7, (.aload_n 1, 1)), (8, (.invokevirtual 35, 3)), (11, (.iconst 0, 1)), (12, (.istore 5, 2)), (14, (.iload 5, 2))], [(16, (.iconst 4, 1)), (17, (.if_icmp .ge 40, 3)), (20, (.aload_n 0, 1)), (21, (.getfield 12, 3)), (24, (.getfield 110, 3)), (27, (.iload_n 3, 1)), (28, (.iload 5, 2)), (30, (.invokevirtual 47, 3))], [(33, (.aload_n 0, 1)), (34, (.aload_n 2, 1)), (35, (.iload_n 3, 1)), (36, (.invokevirtual 106, 3)), (39, (.ifCond .eq 12, 3)), (42, (.iload 4, 2)), (44, (.iconst 1, 1)), (45, (.iload 5, 2)), (47, (.ishl, 1))], [(48, (.ior, 1)), (49, (.istore 4, 2)), (51, (.iinc 5 1, 3)), (54, (.goto (-40), 3)), (57, (.iload 4, 2)), (59, (.ireturn, 1))]]
/-- Outlook.trialAgrees (LPlayedLaws$Sights;I)Z -/
def jc56 : jCode := [[(0, (.aload_n 0, 1)), (1, (.getfield 21, 3)), (4, (.aload_n 0, 1)), (5, (.getfield 12, 3)), (8, (.iconst 0, 1)), (9, (.invokevirtual 87, 3)), (12, (.aload_n 1, 1)), (13, (.iload_n 2, 1)), (14, (.aload_n 0, 1)), (15, (.getfield 21, 3))], [(18, (.getfield 113, 3)), (21, (.iload_n 2, 1)), (22, (.invokevirtual 116, 3)), (25, (.invokevirtual 119, 3)), (28, (.ireturn, 1))]]
/-- Outlook.trialPasses ()Z -/
def jc57 : jCode := [[(0, (.aload_n 0, 1)), (1, (.getfield 21, 3)), (4, (.aload_n 0, 1)), (5, (.getfield 12, 3)), (8, (.iconst 0, 1)), (9, (.invokevirtual 87, 3)), (12, (.aload_n 0, 1)), (13, (.getfield 21, 3))], [(16, (.aload_n 0, 1)), (17, (.getfield 12, 3)), (20, (.invokevirtual 91, 3)), (23, (.ireturn, 1))]]
/-- Row.init (I)V -/
def jc58 : jCode := [[(0, (.aload_n 0, 1)), (1, (.invokespecial 3, 3)), (4, (.aload_n 0, 1)), (5, (.iload_n 1, 1)), (6, (.ifCond .ge 7, 3)), (9, (.iconst 0, 1)), (10, (.goto 4, 3)), (13, (.iload_n 1, 1)), (14, (.newarray .int, 2))], [(16, (.putfield 9, 3)), (19, (.return_, 1))]]
/-- Row.at (I)I -/
def jc59 : jCode := [[(0, (.iload_n 1, 1)), (1, (.ifCond .lt 21, 3)), (4, (.iload_n 1, 1)), (5, (.aload_n 0, 1)), (6, (.getfield 9, 3)), (9, (.arraylength, 1)), (10, (.if_icmp .ge 12, 3)), (13, (.aload_n 0, 1)), (14, (.getfield 9, 3))], [(17, (.iload_n 1, 1)), (18, (.iaload, 1)), (19, (.goto 4, 3)), (22, (.iconst 0, 1)), (23, (.ireturn, 1))]]
/-- Row.put (II)V -/
def jc60 : jCode := [[(0, (.iload_n 1, 1)), (1, (.ifCond .lt 19, 3)), (4, (.iload_n 1, 1)), (5, (.aload_n 0, 1)), (6, (.getfield 9, 3)), (9, (.arraylength, 1)), (10, (.if_icmp .ge 10, 3)), (13, (.aload_n 0, 1)), (14, (.getfield 9, 3))], [(17, (.iload_n 1, 1)), (18, (.iload_n 2, 1)), (19, (.iastore, 1)), (20, (.return_, 1))]]
/-- Row.placeOf (II)I -/
def jc61 : jCode := [[(0, (.iconst 0, 1)), (1, (.istore_n 3, 1)), (2, (.iload_n 3, 1)), (3, (.iload_n 2, 1)), (4, (.if_icmp .ge 20, 3)), (7, (.aload_n 0, 1)), (8, (.iload_n 3, 1)), (9, (.invokevirtual 15, 3)), (12, (.iload_n 1, 1)), (13, (.if_icmp .ne 5, 3))], [(16, (.iload_n 3, 1)), (17, (.ireturn, 1)), (18, (.iinc 3 1, 3)), (21, (.goto (-19), 3)), (24, (.bipush (-4), 2)), (26, (.ireturn, 1))]]
/-- Row.trade (II)V -/
def jc62 : jCode := [[(0, (.aload_n 0, 1)), (1, (.iload_n 1, 1)), (2, (.invokevirtual 15, 3)), (5, (.istore_n 3, 1)), (6, (.aload_n 0, 1)), (7, (.iload_n 1, 1)), (8, (.aload_n 0, 1)), (9, (.iload_n 2, 1)), (10, (.invokevirtual 15, 3)), (13, (.invokevirtual 19, 3))], [(16, (.aload_n 0, 1)), (17, (.iload_n 2, 1)), (18, (.iload_n 3, 1)), (19, (.invokevirtual 19, 3)), (22, (.return_, 1))]]
/-- Row.insert (III)V -/
def jc63 : jCode := [[(0, (.iload_n 3, 1)), (1, (.istore 4, 2)), (3, (.iload 4, 2)), (5, (.iload_n 1, 1)), (6, (.if_icmp .le 23, 3)), (9, (.aload_n 0, 1)), (10, (.iload 4, 2)), (12, (.aload_n 0, 1)), (13, (.iload 4, 2)), (15, (.iconst 1, 1))], [(16, (.isub, 1)), (17, (.invokevirtual 15, 3)), (20, (.invokevirtual 19, 3)), (23, (.iinc 4 (-1), 3)), (26, (.goto (-23), 3)), (29, (.aload_n 0, 1)), (30, (.iload_n 1, 1)), (31, (.iload_n 2, 1))], [(32, (.invokevirtual 19, 3)), (35, (.return_, 1))]]
/-- Row.remove (II)V -/
def jc64 : jCode := [[(0, (.iload_n 1, 1)), (1, (.istore_n 3, 1)), (2, (.iload_n 3, 1)), (3, (.iload_n 2, 1)), (4, (.iconst 1, 1)), (5, (.isub, 1)), (6, (.if_icmp .ge 21, 3)), (9, (.aload_n 0, 1)), (10, (.iload_n 3, 1)), (11, (.aload_n 0, 1)), (12, (.iload_n 3, 1)), (13, (.iconst 1, 1)), (14, (.iadd, 1)), (15, (.invokevirtual 15, 3))], [(18, (.invokevirtual 19, 3)), (21, (.iinc 3 1, 3)), (24, (.goto (-22), 3)), (27, (.return_, 1))]]
/-- Row.clear ()V -/
def jc65 : jCode := [[(0, (.aload_n 0, 1)), (1, (.getfield 9, 3)), (4, (.iconst 0, 1)), (5, (.invokestatic 23, 3)), (8, (.return_, 1))]]
/-- Row.numberThrough ()V -/
def jc66 : jCode := [[(0, (.iconst 0, 1)), (1, (.istore_n 1, 1)), (2, (.iload_n 1, 1)), (3, (.aload_n 0, 1)), (4, (.getfield 9, 3)), (7, (.arraylength, 1)), (8, (.if_icmp .ge 15, 3)), (11, (.aload_n 0, 1)), (12, (.iload_n 1, 1)), (13, (.iload_n 1, 1)), (14, (.invokevirtual 19, 3))], [(17, (.iinc 1 1, 3)), (20, (.goto (-18), 3)), (23, (.return_, 1))]]
/-- Row.copy (LPlayedLaws$Row;)V -/
def jc67 : jCode := [[(0, (.aload_n 1, 1)), (1, (.getfield 9, 3)), (4, (.iconst 0, 1)), (5, (.aload_n 0, 1)), (6, (.getfield 9, 3)), (9, (.iconst 0, 1)), (10, (.aload_n 0, 1)), (11, (.getfield 9, 3)), (14, (.arraylength, 1)), (15, (.aload_n 1, 1))], [(16, (.getfield 9, 3)), (19, (.arraylength, 1)), (20, (.invokestatic 29, 3)), (23, (.invokestatic 35, 3)), (26, (.return_, 1))]]
/-- Shortest.init ()V -/
def jc68 : jCode := [[(0, (.aload_n 0, 1)), (1, (.invokespecial 3, 3)), (4, (.aload_n 0, 1)), (5, (.new 9, 3)), (8, (.dup, 1)), (9, (.invokespecial 11, 3)), (12, (.putfield 12, 3)), (15, (.aload_n 0, 1))], [(16, (.bipush 8, 2)), (18, (.anewarray 18, 3)), (21, (.putfield 20, 3)), (24, (.aload_n 0, 1)), (25, (.new 24, 3)), (28, (.dup, 1)), (29, (.bipush 7, 2)), (31, (.invokespecial 26, 3))], [(34, (.putfield 29, 3)), (37, (.aload_n 0, 1)), (38, (.bipush (-4), 2)), (40, (.putfield 33, 3)), (43, (.iconst 0, 1)), (44, (.istore_n 1, 1)), (45, (.iload_n 1, 1)), (46, (.aload_n 0, 1)), (47, (.getfield 20, 3))], [(50, (.arraylength, 1)), (51, (.if_icmp .ge 22, 3)), (54, (.aload_n 0, 1)), (55, (.getfield 20, 3)), (58, (.iload_n 1, 1)), (59, (.new 18, 3)), (62, (.dup, 1)), (63, (.invokespecial 37, 3))], [(66, (.aastore, 1)), (67, (.iinc 1 1, 3)), (70, (.goto (-25), 3)), (73, (.return_, 1))]]
/-- Shortest.find (LPlayedLaws$House;II)V -/
def jc69 : jCode := [[(0, (.iload_n 2, 1)), (1, (.aload_n 0, 1)), (2, (.getfield 38, 3)), (5, (.if_icmp .ne 12, 3)), (8, (.iload_n 3, 1)), (9, (.aload_n 0, 1)), (10, (.getfield 33, 3)), (13, (.if_icmp .ne 4, 3))], [(16, (.return_, 1)), (17, (.aload_n 0, 1)), (18, (.iload_n 2, 1)), (19, (.putfield 38, 3)), (22, (.aload_n 0, 1)), (23, (.iload_n 3, 1)), (24, (.putfield 33, 3)), (27, (.aload_n 0, 1)), (28, (.getfield 12, 3)), (31, (.aload_n 1, 1))], [(32, (.invokevirtual 41, 3)), (35, (.aload_n 0, 1)), (36, (.iconst 0, 1)), (37, (.putfield 45, 3)), (40, (.aload_n 0, 1)), (41, (.sipush 141, 3)), (44, (.putfield 48, 3)), (47, (.aload_n 0, 1))], [(48, (.iconst 0, 1)), (49, (.iconst 0, 1)), (50, (.iconst 0, 1)), (51, (.iload_n 2, 1)), (52, (.invokestatic 51, 3)), (55, (.return_, 1))]]
/-- Shortest.extend (LPlayedLaws$Shortest;IIII)V -/
def jc70 : jCode := [[(0, (.iload_n 1, 1)), (1, (.bipush 7, 2)), (3, (.if_icmp .lt 4, 3)), (6, (.return_, 1)), (7, (.iconst 0, 1)), (8, (.istore 5, 2)), (10, (.iload 5, 2)), (12, (.aload_n 0, 1)), (13, (.getfield 12, 3))], [(16, (.getfield 55, 3)), (19, (.if_icmp .ge 103, 3)), (22, (.iload_n 3, 1)), (23, (.aload_n 0, 1)), (24, (.getfield 12, 3)), (27, (.getfield 58, 3)), (30, (.iload 5, 2))], [(32, (.invokevirtual 60, 3)), (35, (.iadd, 1)), (36, (.istore 6, 2)), (38, (.iload_n 2, 1)), (39, (.iload 5, 2)), (41, (.invokestatic 64, 3)), (44, (.ifCond .ne 72, 3)), (47, (.iload 6, 2))], [(49, (.aload_n 0, 1)), (50, (.getfield 48, 3)), (53, (.if_icmp .lt 6, 3)), (56, (.goto 60, 3)), (59, (.aload_n 0, 1)), (60, (.iload_n 1, 1)), (61, (.iload 5, 2)), (63, (.invokevirtual 68, 3))], [(66, (.ifCond .ne 6, 3)), (69, (.goto 47, 3)), (72, (.iload 4, 2)), (74, (.aload_n 0, 1)), (75, (.iload 5, 2)), (77, (.invokevirtual 71, 3))], [(80, (.iconst (-1), 1)), (81, (.ixor, 1)), (82, (.iand, 1)), (83, (.istore 7, 2)), (85, (.iload 7, 2)), (87, (.ifCond .ne 12, 3)), (90, (.aload_n 0, 1)), (91, (.iload_n 1, 1)), (92, (.iconst 1, 1)), (93, (.iadd, 1)), (94, (.iload 6, 2))], [(96, (.invokevirtual 74, 3)), (99, (.aload_n 0, 1)), (100, (.iload_n 1, 1)), (101, (.iconst 1, 1)), (102, (.iadd, 1)), (103, (.iload_n 2, 1)), (104, (.iconst 1, 1)), (105, (.iload 5, 2)), (107, (.ishl, 1)), (108, (.ior, 1)), (109, (.iload 6, 2)), (111, (.iload 7, 2))], [(113, (.invokestatic 51, 3)), (116, (.iinc 5 1, 3)), (119, (.goto (-109), 3)), (122, (.return_, 1))]]
/-- Shortest.endures (II)Z -/
def jc71 : jCode := [[(0, (.aload_n 0, 1)), (1, (.iload_n 1, 1)), (2, (.invokevirtual 78, 3)), (5, (.astore_n 3, 1)), (6, (.aload_n 0, 1)), (7, (.iload_n 1, 1)), (8, (.iconst 1, 1)), (9, (.iadd, 1)), (10, (.invokevirtual 78, 3)), (13, (.astore 4, 2)), (15, (.aload_n 3, 1))], [(16, (.ifnull 8, 3)), (19, (.aload 4, 2)), (21, (.ifnonnull 5, 3)), (24, (.iconst 0, 1)), (25, (.ireturn, 1)), (26, (.aload_n 0, 1)), (27, (.getfield 12, 3)), (30, (.getfield 82, 3))], [(33, (.iload_n 1, 1)), (34, (.iload_n 2, 1)), (35, (.invokevirtual 85, 3)), (38, (.aload_n 0, 1)), (39, (.getfield 12, 3)), (42, (.iload_n 1, 1)), (43, (.iconst 1, 1)), (44, (.iadd, 1)), (45, (.putfield 88, 3))], [(48, (.aload 4, 2)), (50, (.aload_n 3, 1)), (51, (.invokevirtual 91, 3)), (54, (.aload 4, 2)), (56, (.aload_n 0, 1)), (57, (.getfield 12, 3)), (60, (.iload_n 1, 1)), (61, (.iconst 0, 1)), (62, (.invokevirtual 94, 3))], [(65, (.aload 4, 2)), (67, (.aload_n 0, 1)), (68, (.getfield 12, 3)), (71, (.invokevirtual 98, 3)), (74, (.ireturn, 1))]]
/-- Shortest.evening (I)LPlayedLaws$Night; -/
def jc72 : jCode := [[(0, (.iload_n 1, 1)), (1, (.ifCond .lt 21, 3)), (4, (.iload_n 1, 1)), (5, (.aload_n 0, 1)), (6, (.getfield 20, 3)), (9, (.arraylength, 1)), (10, (.if_icmp .ge 12, 3)), (13, (.aload_n 0, 1)), (14, (.getfield 20, 3))], [(17, (.iload_n 1, 1)), (18, (.aaload, 1)), (19, (.goto 4, 3)), (22, (.aconst_null, 1)), (23, (.areturn, 1))]]
/-- Shortest.bindable (I)I -/
def jc73 : jCode := [[(0, (.aload_n 0, 1)), (1, (.getfield 12, 3)), (4, (.getfield 102, 3)), (7, (.iload_n 1, 1)), (8, (.invokevirtual 60, 3)), (11, (.iconst 3, 1)), (12, (.if_icmp .ne 7, 3)), (15, (.iconst 0, 1))], [(16, (.goto 11, 3)), (19, (.aload_n 0, 1)), (20, (.getfield 12, 3)), (23, (.iload_n 1, 1)), (24, (.invokevirtual 105, 3)), (27, (.ireturn, 1))]]
/-- Shortest.note (II)V -/
def jc74 : jCode := [[(0, (.aload_n 0, 1)), (1, (.iload_n 1, 1)), (2, (.putfield 45, 3)), (5, (.aload_n 0, 1)), (6, (.iload_n 2, 1)), (7, (.putfield 48, 3)), (10, (.aload_n 0, 1)), (11, (.getfield 29, 3)), (14, (.aload_n 0, 1)), (15, (.getfield 12, 3))], [(18, (.getfield 82, 3)), (21, (.invokevirtual 108, 3)), (24, (.return_, 1))]]
/-- Sights.init ()V -/
def jc75 : jCode := [[(0, (.aload_n 0, 1)), (1, (.invokespecial 3, 3)), (4, (.aload_n 0, 1)), (5, (.new 9, 3)), (8, (.dup, 1)), (9, (.bipush 6, 2)), (11, (.invokespecial 11, 3)), (14, (.putfield 14, 3))], [(17, (.aload_n 0, 1)), (18, (.new 9, 3)), (21, (.dup, 1)), (22, (.bipush 6, 2)), (24, (.invokespecial 11, 3)), (27, (.putfield 20, 3)), (30, (.return_, 1))]]
/-- Sights.note (II)Z -/
def jc76 : jCode := [[(0, (.aload_n 0, 1)), (1, (.getfield 23, 3)), (4, (.bipush 6, 2)), (6, (.if_icmp .lt 5, 3)), (9, (.iconst 0, 1)), (10, (.ireturn, 1)), (11, (.aload_n 0, 1)), (12, (.getfield 14, 3)), (15, (.aload_n 0, 1))], [(16, (.getfield 23, 3)), (19, (.iload_n 1, 1)), (20, (.invokevirtual 27, 3)), (23, (.aload_n 0, 1)), (24, (.getfield 20, 3)), (27, (.aload_n 0, 1)), (28, (.getfield 23, 3)), (31, (.iload_n 2, 1))], [(32, (.invokevirtual 27, 3)), (35, (.aload_n 0, 1)), (36, (.dup, 1)), (37, (.getfield 23, 3)), (40, (.iconst 1, 1)), (41, (.iadd, 1)), (42, (.putfield 23, 3)), (45, (.iconst 1, 1)), (46, (.ireturn, 1))]]
/-- Sights.agree (II)Z -/
def jc77 : jCode := [[(0, (.iconst 0, 1)), (1, (.istore_n 3, 1)), (2, (.iload_n 3, 1)), (3, (.aload_n 0, 1)), (4, (.getfield 23, 3)), (7, (.if_icmp .ge 35, 3)), (10, (.aload_n 0, 1)), (11, (.getfield 14, 3)), (14, (.iload_n 3, 1)), (15, (.invokevirtual 31, 3))], [(18, (.iload_n 1, 1)), (19, (.if_icmp .ne 17, 3)), (22, (.aload_n 0, 1)), (23, (.getfield 20, 3)), (26, (.iload_n 3, 1)), (27, (.invokevirtual 31, 3)), (30, (.iload_n 2, 1)), (31, (.if_icmp .eq 5, 3))], [(34, (.iconst 0, 1)), (35, (.ireturn, 1)), (36, (.iinc 3 1, 3)), (39, (.goto (-37), 3)), (42, (.iconst 1, 1)), (43, (.ireturn, 1))]]
/-- Text.init ()V -/
def jc78 : jCode := [[(0, (.aload_n 0, 1)), (1, (.invokespecial 3, 3)), (4, (.aload_n 0, 1)), (5, (.new 9, 3)), (8, (.dup, 1)), (9, (.sipush 200, 3)), (12, (.invokespecial 11, 3)), (15, (.putfield 14, 3))], [(18, (.aload_n 0, 1)), (19, (.new 20, 3)), (22, (.dup, 1)), (23, (.invokespecial 22, 3)), (26, (.putfield 23, 3)), (29, (.return_, 1))]]
/-- Text.append (I)Z -/
def jc79 : jCode := [[(0, (.aload_n 0, 1)), (1, (.getfield 27, 3)), (4, (.sipush 200, 3)), (7, (.if_icmp .lt 5, 3)), (10, (.iconst 0, 1)), (11, (.ireturn, 1)), (12, (.aload_n 0, 1)), (13, (.getfield 14, 3))], [(16, (.aload_n 0, 1)), (17, (.getfield 27, 3)), (20, (.iload_n 1, 1)), (21, (.invokevirtual 31, 3)), (24, (.aload_n 0, 1)), (25, (.dup, 1)), (26, (.getfield 27, 3)), (29, (.iconst 1, 1)), (30, (.iadd, 1)), (31, (.putfield 27, 3))], [(34, (.iconst 1, 1)), (35, (.ireturn, 1))]]
/-- Text.read ()I -/
def jc80 : jCode := [[(0, (.aload_n 0, 1)), (1, (.getfield 23, 3)), (4, (.invokevirtual 35, 3)), (7, (.aload_n 0, 1)), (8, (.iconst 0, 1)), (9, (.putfield 38, 3)), (12, (.iconst 0, 1)), (13, (.istore_n 1, 1)), (14, (.iload_n 1, 1)), (15, (.sipush 200, 3))], [(18, (.if_icmp .ge 34, 3)), (21, (.aload_n 0, 1)), (22, (.getfield 38, 3)), (25, (.aload_n 0, 1)), (26, (.getfield 27, 3)), (29, (.if_icmp .ge 23, 3))], [(32, (.aload_n 0, 1)), (33, (.getfield 38, 3)), (36, (.istore_n 2, 1)), (37, (.aload_n 0, 1)), (38, (.invokevirtual 41, 3)), (41, (.ifCond .ne 5, 3)), (44, (.iload_n 2, 1)), (45, (.ireturn, 1)), (46, (.iinc 1 1, 3))], [(49, (.goto (-35), 3)), (52, (.bipush (-4), 2)), (54, (.ireturn, 1))]]
/-- Text.readItem ()Z -/
def jc81 : jCode := [[(0, (.aload_n 0, 1)), (1, (.invokevirtual 45, 3)), (4, (.lookupswitch 64 #[(98, 54), (103, 59), (104, 49), (115, 44)], 44))], [], [], [(48, (.aload_n 0, 1)), (49, (.invokevirtual 49, 3)), (52, (.ireturn, 1)), (53, (.aload_n 0, 1)), (54, (.invokevirtual 52, 3)), (57, (.ireturn, 1)), (58, (.aload_n 0, 1)), (59, (.invokevirtual 55, 3)), (62, (.ireturn, 1)), (63, (.aload_n 0, 1))], [(64, (.invokevirtual 58, 3)), (67, (.ireturn, 1)), (68, (.iconst 0, 1)), (69, (.ireturn, 1))]]
/-- Text.readScene ()Z -/
def jc82 : jCode := [[(0, (.aload_n 0, 1)), (1, (.bipush 44, 2)), (3, (.iconst 0, 1)), (4, (.iconst 3, 1)), (5, (.invokevirtual 61, 3)), (8, (.istore_n 1, 1)), (9, (.aload_n 0, 1)), (10, (.bipush 44, 2)), (12, (.iconst 1, 1)), (13, (.bipush 20, 2)), (15, (.invokevirtual 61, 3))], [(18, (.istore_n 2, 1)), (19, (.aload_n 0, 1)), (20, (.bipush 59, 2)), (22, (.iconst 0, 1)), (23, (.bipush 8, 2)), (25, (.invokevirtual 61, 3)), (28, (.istore_n 3, 1)), (29, (.iload_n 1, 1)), (30, (.ifCond .lt 28, 3))], [(33, (.iload_n 2, 1)), (34, (.ifCond .lt 24, 3)), (37, (.iload_n 3, 1)), (38, (.ifCond .lt 20, 3)), (41, (.aload_n 0, 1)), (42, (.getfield 23, 3)), (45, (.iload_n 1, 1)), (46, (.iload_n 2, 1)), (47, (.iload_n 3, 1))], [(48, (.invokevirtual 65, 3)), (51, (.ifCond .eq 7, 3)), (54, (.iconst 1, 1)), (55, (.goto 4, 3)), (58, (.iconst 0, 1)), (59, (.ireturn, 1))]]
/-- Text.readSeat ()Z -/
def jc83 : jCode := [[(0, (.aload_n 0, 1)), (1, (.bipush 44, 2)), (3, (.iconst 0, 1)), (4, (.iconst 3, 1)), (5, (.invokevirtual 61, 3)), (8, (.istore_n 1, 1)), (9, (.aload_n 0, 1)), (10, (.bipush 44, 2)), (12, (.iconst 0, 1)), (13, (.iconst 3, 1)), (14, (.invokevirtual 61, 3))], [(17, (.istore_n 2, 1)), (18, (.aload_n 0, 1)), (19, (.bipush 59, 2)), (21, (.iconst 0, 1)), (22, (.bipush 30, 2)), (24, (.invokevirtual 61, 3)), (27, (.istore_n 3, 1)), (28, (.iload_n 1, 1)), (29, (.ifCond .lt 28, 3))], [(32, (.iload_n 2, 1)), (33, (.ifCond .lt 24, 3)), (36, (.iload_n 3, 1)), (37, (.ifCond .lt 20, 3)), (40, (.aload_n 0, 1)), (41, (.getfield 23, 3)), (44, (.iload_n 1, 1)), (45, (.iload_n 2, 1)), (46, (.iload_n 3, 1)), (47, (.invokevirtual 69, 3))], [(50, (.ifCond .eq 7, 3)), (53, (.iconst 1, 1)), (54, (.goto 4, 3)), (57, (.iconst 0, 1)), (58, (.ireturn, 1))]]
/-- Text.readBill ()Z -/
def jc84 : jCode := [[(0, (.aload_n 0, 1)), (1, (.getfield 23, 3)), (4, (.iconst 0, 1)), (5, (.putfield 72, 3)), (8, (.iconst 0, 1)), (9, (.istore_n 1, 1)), (10, (.iload_n 1, 1)), (11, (.bipush 7, 2)), (13, (.if_icmp .gt 80, 3))], [(16, (.aload_n 0, 1)), (17, (.invokevirtual 45, 3)), (20, (.istore_n 2, 1)), (21, (.iload_n 2, 1)), (22, (.bipush 59, 2)), (24, (.if_icmp .ne 19, 3)), (27, (.aload_n 0, 1)), (28, (.getfield 23, 3)), (31, (.getfield 72, 3))], [(34, (.ifCond .le 7, 3)), (37, (.iconst 1, 1)), (38, (.goto 4, 3)), (41, (.iconst 0, 1)), (42, (.ireturn, 1)), (43, (.iload_n 2, 1)), (44, (.invokestatic 75, 3)), (47, (.istore_n 3, 1))], [(48, (.aload_n 0, 1)), (49, (.getfield 23, 3)), (52, (.iload_n 3, 1)), (53, (.invokevirtual 79, 3)), (56, (.ifCond .eq 14, 3)), (59, (.aload_n 0, 1)), (60, (.getfield 23, 3)), (63, (.iload_n 3, 1))], [(64, (.invokevirtual 83, 3)), (67, (.ifCond .eq 5, 3)), (70, (.iconst 0, 1)), (71, (.ireturn, 1)), (72, (.aload_n 0, 1)), (73, (.getfield 23, 3)), (76, (.iload_n 3, 1)), (77, (.aload_n 0, 1)), (78, (.getfield 23, 3))], [(81, (.getfield 72, 3)), (84, (.invokevirtual 86, 3)), (87, (.iinc 1 1, 3)), (90, (.goto (-80), 3)), (93, (.iconst 0, 1)), (94, (.ireturn, 1))]]
/-- Text.readTill ()Z -/
def jc85 : jCode := [[(0, (.aload_n 0, 1)), (1, (.bipush 59, 2)), (3, (.iconst 0, 1)), (4, (.bipush 99, 2)), (6, (.invokevirtual 61, 3)), (9, (.istore_n 1, 1)), (10, (.aload_n 0, 1)), (11, (.getfield 23, 3)), (14, (.iload_n 1, 1)), (15, (.putfield 89, 3))], [(18, (.iload_n 1, 1)), (19, (.ifCond .lt 7, 3)), (22, (.iconst 1, 1)), (23, (.goto 4, 3)), (26, (.iconst 0, 1)), (27, (.ireturn, 1))]]
/-- Text.number (III)I -/
def jc86 : jCode := [[(0, (.aload_n 0, 1)), (1, (.invokevirtual 45, 3)), (4, (.invokestatic 75, 3)), (7, (.istore 4, 2)), (9, (.iload 4, 2)), (11, (.ifCond .ge 5, 3)), (14, (.iconst (-1), 1)), (15, (.ireturn, 1))], [(16, (.aload_n 0, 1)), (17, (.invokevirtual 45, 3)), (20, (.istore 5, 2)), (22, (.iload 5, 2)), (24, (.invokestatic 75, 3)), (27, (.ifCond .lt 22, 3)), (30, (.iload 4, 2))], [(32, (.bipush 10, 2)), (34, (.imul, 1)), (35, (.iload 5, 2)), (37, (.invokestatic 75, 3)), (40, (.iadd, 1)), (41, (.istore 4, 2)), (43, (.aload_n 0, 1)), (44, (.invokevirtual 45, 3)), (47, (.istore 5, 2))], [(49, (.iload 5, 2)), (51, (.iload_n 1, 1)), (52, (.if_icmp .ne 18, 3)), (55, (.iload 4, 2)), (57, (.iload_n 2, 1)), (58, (.iload_n 3, 1)), (59, (.invokestatic 92, 3)), (62, (.ifCond .eq 8, 3))], [(65, (.iload 4, 2)), (67, (.goto 4, 3)), (70, (.iconst (-1), 1)), (71, (.ireturn, 1))]]
/-- Text.next ()I -/
def jc87 : jCode := [[(0, (.aload_n 0, 1)), (1, (.getfield 38, 3)), (4, (.aload_n 0, 1)), (5, (.getfield 27, 3)), (8, (.if_icmp .ge 17, 3)), (11, (.aload_n 0, 1)), (12, (.getfield 14, 3)), (15, (.aload_n 0, 1))], [(16, (.getfield 38, 3)), (19, (.invokevirtual 95, 3)), (22, (.goto 5, 3)), (25, (.bipush (-4), 2)), (27, (.istore_n 1, 1)), (28, (.aload_n 0, 1)), (29, (.dup, 1)), (30, (.getfield 38, 3))], [(33, (.iconst 1, 1)), (34, (.iadd, 1)), (35, (.putfield 38, 3)), (38, (.iload_n 1, 1)), (39, (.ireturn, 1))]]
/-- Text.figure (I)I -/
def jc88 : jCode := [[(0, (.iload_n 0, 1)), (1, (.bipush 48, 2)), (3, (.bipush 57, 2)), (5, (.invokestatic 92, 3)), (8, (.ifCond .eq 10, 3)), (11, (.iload_n 0, 1)), (12, (.bipush 48, 2)), (14, (.isub, 1)), (15, (.goto 4, 3))], [(18, (.iconst (-1), 1)), (19, (.ireturn, 1))]]
/-- Laws.init ()V -/
def jc89 : jCode := [[(0, (.aload_n 0, 1)), (1, (.invokespecial 3, 3)), (4, (.aload_n 0, 1)), (5, (.new 9, 3)), (8, (.dup, 1)), (9, (.invokespecial 11, 3)), (12, (.putfield 12, 3)), (15, (.aload_n 0, 1))], [(16, (.new 16, 3)), (19, (.dup, 1)), (20, (.invokespecial 18, 3)), (23, (.putfield 19, 3)), (26, (.aload_n 0, 1)), (27, (.new 23, 3)), (30, (.dup, 1)), (31, (.bipush 8, 2))], [(33, (.invokespecial 25, 3)), (36, (.putfield 28, 3)), (39, (.aload_n 0, 1)), (40, (.new 23, 3)), (43, (.dup, 1)), (44, (.iconst 2, 1)), (45, (.invokespecial 25, 3))], [(48, (.putfield 32, 3)), (51, (.aload_n 0, 1)), (52, (.new 35, 3)), (55, (.dup, 1)), (56, (.invokespecial 37, 3)), (59, (.putfield 38, 3)), (62, (.aload_n 0, 1)), (63, (.new 42, 3))], [(66, (.dup, 1)), (67, (.invokespecial 44, 3)), (70, (.putfield 45, 3)), (73, (.aload_n 0, 1)), (74, (.new 49, 3)), (77, (.dup, 1)), (78, (.invokespecial 51, 3))], [(81, (.putfield 52, 3)), (84, (.aload_n 0, 1)), (85, (.new 56, 3)), (88, (.dup, 1)), (89, (.invokespecial 58, 3)), (92, (.putfield 59, 3)), (95, (.aload_n 0, 1))], [(96, (.new 63, 3)), (99, (.dup, 1)), (100, (.invokespecial 65, 3)), (103, (.putfield 66, 3)), (106, (.aload_n 0, 1)), (107, (.new 70, 3)), (110, (.dup, 1)), (111, (.invokespecial 72, 3))], [(114, (.putfield 73, 3)), (117, (.iconst 0, 1)), (118, (.istore_n 1, 1)), (119, (.iload_n 1, 1)), (120, (.ldc 77, 2)), (122, (.invokevirtual 79, 3)), (125, (.if_icmp .ge 23, 3))], [(128, (.aload_n 0, 1)), (129, (.getfield 12, 3)), (132, (.ldc 77, 2)), (134, (.iload_n 1, 1)), (135, (.invokevirtual 85, 3)), (138, (.invokevirtual 89, 3)), (141, (.pop, 1)), (142, (.iinc 1 1, 3))], [(145, (.goto (-26), 3)), (148, (.aload_n 0, 1)), (149, (.getfield 12, 3)), (152, (.invokevirtual 93, 3)), (155, (.bipush (-4), 2)), (157, (.if_icmp .ne 14, 3))], [(160, (.aload_n 0, 1)), (161, (.aload_n 0, 1)), (162, (.getfield 12, 3)), (165, (.getfield 96, 3)), (168, (.invokevirtual 99, 3)), (171, (.aload_n 0, 1)), (172, (.getfield 12, 3)), (175, (.iconst 0, 1))], [(176, (.putfield 103, 3)), (179, (.return_, 1))]]
/-- Laws.write (I)I -/
def jc90 : jCode := [[(0, (.iload_n 1, 1)), (1, (.bipush 32, 2)), (3, (.bipush 126, 2)), (5, (.invokestatic 106, 3)), (8, (.ifCond .ne 5, 3)), (11, (.iconst (-1), 1)), (12, (.ireturn, 1)), (13, (.aload_n 0, 1)), (14, (.getfield 12, 3))], [(17, (.iload_n 1, 1)), (18, (.invokevirtual 89, 3)), (21, (.ifCond .eq 13, 3)), (24, (.aload_n 0, 1)), (25, (.getfield 12, 3)), (28, (.getfield 103, 3)), (31, (.goto 5, 3))], [(34, (.bipush (-3), 2)), (36, (.ireturn, 1))]]
/-- Laws.wipe ()I -/
def jc91 : jCode := [[(0, (.aload_n 0, 1)), (1, (.getfield 12, 3)), (4, (.getfield 103, 3)), (7, (.istore_n 1, 1)), (8, (.aload_n 0, 1)), (9, (.getfield 12, 3)), (12, (.iconst 0, 1)), (13, (.putfield 103, 3))], [(16, (.iload_n 1, 1)), (17, (.ireturn, 1))]]
/-- Laws.fault ()I -/
def jc92 : jCode := [[(0, (.aload_n 0, 1)), (1, (.getfield 12, 3)), (4, (.invokevirtual 93, 3)), (7, (.ireturn, 1))]]
/-- Laws.lay ()I -/
def jc93 : jCode := [[(0, (.aload_n 0, 1)), (1, (.getfield 12, 3)), (4, (.invokevirtual 93, 3)), (7, (.bipush (-4), 2)), (9, (.if_icmp .ne 29, 3)), (12, (.aload_n 0, 1)), (13, (.getfield 12, 3))], [(16, (.getfield 96, 3)), (19, (.getfield 110, 3)), (22, (.ifCond .eq 16, 3)), (25, (.aload_n 0, 1)), (26, (.getfield 12, 3)), (29, (.getfield 96, 3))], [(32, (.getfield 113, 3)), (35, (.ifCond .ne 6, 3)), (38, (.bipush (-2), 2)), (40, (.ireturn, 1)), (41, (.aload_n 0, 1)), (42, (.aload_n 0, 1)), (43, (.getfield 12, 3)), (46, (.getfield 96, 3))], [(49, (.invokevirtual 99, 3)), (52, (.aload_n 0, 1)), (53, (.getfield 19, 3)), (56, (.getfield 113, 3)), (59, (.ireturn, 1))]]
/-- Laws.scene (II)I -/
def jc94 : jCode := [[(0, (.aload_n 0, 1)), (1, (.getfield 19, 3)), (4, (.iload_n 1, 1)), (5, (.invokevirtual 116, 3)), (8, (.ifCond .ne 5, 3)), (11, (.iconst (-1), 1)), (12, (.ireturn, 1)), (13, (.iload_n 2, 1)), (14, (.tableswitch 112 0 4 #[34, 46, 58, 91, 100], 34))], [], [], [(48, (.aload_n 0, 1)), (49, (.getfield 19, 3)), (52, (.getfield 119, 3)), (55, (.iload_n 1, 1)), (56, (.invokevirtual 123, 3)), (59, (.ireturn, 1)), (60, (.aload_n 0, 1)), (61, (.getfield 19, 3))], [(64, (.getfield 129, 3)), (67, (.iload_n 1, 1)), (68, (.invokevirtual 123, 3)), (71, (.ireturn, 1)), (72, (.aload_n 0, 1)), (73, (.getfield 19, 3)), (76, (.getfield 132, 3)), (79, (.iload_n 1, 1))], [(80, (.invokevirtual 123, 3)), (83, (.bipush 8, 2)), (85, (.if_icmp .ne 8, 3)), (88, (.bipush (-4), 2)), (90, (.goto 14, 3)), (93, (.aload_n 0, 1)), (94, (.getfield 19, 3))], [(97, (.getfield 132, 3)), (100, (.iload_n 1, 1)), (101, (.invokevirtual 123, 3)), (104, (.ireturn, 1)), (105, (.aload_n 0, 1)), (106, (.getfield 19, 3)), (109, (.iload_n 1, 1)), (110, (.invokevirtual 135, 3))], [(113, (.ireturn, 1)), (114, (.aload_n 0, 1)), (115, (.getfield 19, 3)), (118, (.getfield 138, 3)), (121, (.iload_n 1, 1)), (122, (.invokevirtual 123, 3)), (125, (.ireturn, 1)), (126, (.iconst (-1), 1)), (127, (.ireturn, 1))]]
/-- Laws.seat (II)I -/
def jc95 : jCode := [[(0, (.aload_n 0, 1)), (1, (.getfield 19, 3)), (4, (.iload_n 1, 1)), (5, (.invokevirtual 141, 3)), (8, (.ifCond .ne 5, 3)), (11, (.iconst (-1), 1)), (12, (.ireturn, 1)), (13, (.iload_n 2, 1)), (14, (.tableswitch 91 0 4 #[34, 46, 58, 70, 79], 34))], [], [], [(48, (.aload_n 0, 1)), (49, (.getfield 19, 3)), (52, (.getfield 144, 3)), (55, (.iload_n 1, 1)), (56, (.invokevirtual 123, 3)), (59, (.ireturn, 1)), (60, (.aload_n 0, 1)), (61, (.getfield 19, 3))], [(64, (.getfield 147, 3)), (67, (.iload_n 1, 1)), (68, (.invokevirtual 123, 3)), (71, (.ireturn, 1)), (72, (.aload_n 0, 1)), (73, (.getfield 19, 3)), (76, (.getfield 150, 3)), (79, (.iload_n 1, 1))], [(80, (.invokevirtual 123, 3)), (83, (.ireturn, 1)), (84, (.aload_n 0, 1)), (85, (.getfield 19, 3)), (88, (.iload_n 1, 1)), (89, (.invokevirtual 153, 3)), (92, (.ireturn, 1)), (93, (.aload_n 0, 1)), (94, (.getfield 19, 3))], [(97, (.getfield 156, 3)), (100, (.iload_n 1, 1)), (101, (.invokevirtual 123, 3)), (104, (.ireturn, 1)), (105, (.iconst (-1), 1)), (106, (.ireturn, 1))]]
/-- Laws.tonight (II)I -/
def jc96 : jCode := [[(0, (.aload_n 0, 1)), (1, (.getfield 19, 3)), (4, (.iload_n 1, 1)), (5, (.invokevirtual 141, 3)), (8, (.ifCond .eq 12, 3)), (11, (.iload_n 2, 1)), (12, (.iconst 0, 1)), (13, (.iconst 2, 1)), (14, (.invokestatic 106, 3))], [(17, (.ifCond .ne 5, 3)), (20, (.iconst (-1), 1)), (21, (.ireturn, 1)), (22, (.aload_n 0, 1)), (23, (.getfield 45, 3)), (26, (.aload_n 0, 1)), (27, (.getfield 19, 3)), (30, (.iconst 0, 1)), (31, (.invokevirtual 159, 3))], [(34, (.iload_n 2, 1)), (35, (.lookupswitch 68 #[(0, 25), (1, 56)], 25))], [(60, (.aload_n 0, 1)), (61, (.getfield 45, 3))], [(64, (.getfield 163, 3)), (67, (.iload_n 1, 1)), (68, (.invokevirtual 123, 3)), (71, (.ifCond .ne 8, 3)), (74, (.bipush (-4), 2)), (76, (.goto 14, 3)), (79, (.aload_n 0, 1))], [(80, (.getfield 45, 3)), (83, (.getfield 163, 3)), (86, (.iload_n 1, 1)), (87, (.invokevirtual 123, 3)), (90, (.ireturn, 1)), (91, (.aload_n 0, 1)), (92, (.getfield 45, 3)), (95, (.getfield 166, 3))], [(98, (.iload_n 1, 1)), (99, (.invokevirtual 123, 3)), (102, (.ireturn, 1)), (103, (.aload_n 0, 1)), (104, (.getfield 45, 3)), (107, (.getfield 169, 3)), (110, (.iload_n 1, 1)), (111, (.invokevirtual 123, 3))], [(114, (.ireturn, 1))]]
/-- Laws.passes (I)I -/
def jc97 : jCode := [[(0, (.iload_n 1, 1)), (1, (.iconst 0, 1)), (2, (.iconst 1, 1)), (3, (.invokestatic 106, 3)), (6, (.ifCond .ne 5, 3)), (9, (.iconst (-1), 1)), (10, (.ireturn, 1)), (11, (.aload_n 0, 1)), (12, (.getfield 45, 3)), (15, (.aload_n 0, 1))], [(16, (.getfield 19, 3)), (19, (.iconst 0, 1)), (20, (.invokevirtual 159, 3)), (23, (.iload_n 1, 1)), (24, (.ifCond .ne 19, 3)), (27, (.aload_n 0, 1)), (28, (.getfield 19, 3)), (31, (.getfield 113, 3))], [(34, (.aload_n 0, 1)), (35, (.getfield 45, 3)), (38, (.getfield 172, 3)), (41, (.isub, 1)), (42, (.ireturn, 1)), (43, (.aload_n 0, 1)), (44, (.getfield 45, 3)), (47, (.aload_n 0, 1))], [(48, (.getfield 19, 3)), (51, (.invokevirtual 175, 3)), (54, (.ifCond .eq 7, 3)), (57, (.iconst 1, 1)), (58, (.goto 4, 3)), (61, (.iconst 0, 1)), (62, (.ireturn, 1))]]
/-- Laws.add (I)I -/
def jc98 : jCode := [[(0, (.aload_n 0, 1)), (1, (.getfield 19, 3)), (4, (.iload_n 1, 1)), (5, (.invokevirtual 116, 3)), (8, (.ifCond .ne 5, 3)), (11, (.iconst (-1), 1)), (12, (.ireturn, 1)), (13, (.aload_n 0, 1)), (14, (.getfield 19, 3))], [(17, (.iload_n 1, 1)), (18, (.invokevirtual 179, 3)), (21, (.ifCond .eq 6, 3)), (24, (.bipush (-2), 2)), (26, (.ireturn, 1)), (27, (.aload_n 0, 1)), (28, (.invokevirtual 182, 3)), (31, (.aload_n 0, 1))], [(32, (.getfield 19, 3)), (35, (.iload_n 1, 1)), (36, (.aload_n 0, 1)), (37, (.getfield 19, 3)), (40, (.getfield 185, 3)), (43, (.invokevirtual 188, 3)), (46, (.aload_n 0, 1)), (47, (.getfield 19, 3))], [(50, (.iload_n 1, 1)), (51, (.invokevirtual 135, 3)), (54, (.ireturn, 1))]]
/-- Laws.cut (I)I -/
def jc99 : jCode := [[(0, (.aload_n 0, 1)), (1, (.getfield 19, 3)), (4, (.iload_n 1, 1)), (5, (.invokevirtual 116, 3)), (8, (.ifCond .ne 5, 3)), (11, (.iconst (-1), 1)), (12, (.ireturn, 1)), (13, (.aload_n 0, 1)), (14, (.getfield 19, 3))], [(17, (.iload_n 1, 1)), (18, (.invokevirtual 179, 3)), (21, (.ifCond .ne 6, 3)), (24, (.bipush (-2), 2)), (26, (.ireturn, 1)), (27, (.aload_n 0, 1)), (28, (.invokevirtual 182, 3)), (31, (.aload_n 0, 1))], [(32, (.getfield 19, 3)), (35, (.iload_n 1, 1)), (36, (.invokevirtual 192, 3)), (39, (.aload_n 0, 1)), (40, (.getfield 19, 3)), (43, (.getfield 185, 3)), (46, (.ireturn, 1))]]
/-- Laws.play ()I -/
def jc100 : jCode := [[(0, (.aload_n 0, 1)), (1, (.getfield 19, 3)), (4, (.invokevirtual 195, 3)), (7, (.ifCond .ne 6, 3)), (10, (.bipush (-2), 2)), (12, (.ireturn, 1)), (13, (.aload_n 0, 1)), (14, (.invokevirtual 182, 3))], [(17, (.aload_n 0, 1)), (18, (.getfield 45, 3)), (21, (.aload_n 0, 1)), (22, (.getfield 19, 3)), (25, (.iconst 0, 1)), (26, (.invokevirtual 159, 3)), (29, (.aload_n 0, 1)), (30, (.getfield 19, 3))], [(33, (.aload_n 0, 1)), (34, (.getfield 45, 3)), (37, (.invokevirtual 199, 3)), (40, (.aload_n 0, 1)), (41, (.getfield 45, 3)), (44, (.aload_n 0, 1)), (45, (.getfield 19, 3))], [(48, (.invokevirtual 175, 3)), (51, (.ifCond .eq 7, 3)), (54, (.iconst 1, 1)), (55, (.goto 4, 3)), (58, (.iconst 0, 1)), (59, (.ireturn, 1))]]
/-- Laws.swap (II)I -/
def jc101 : jCode := [[(0, (.aload_n 0, 1)), (1, (.getfield 19, 3)), (4, (.iload_n 1, 1)), (5, (.invokevirtual 141, 3)), (8, (.ifCond .eq 19, 3)), (11, (.aload_n 0, 1)), (12, (.getfield 19, 3)), (15, (.iload_n 2, 1))], [(16, (.invokevirtual 141, 3)), (19, (.ifCond .eq 8, 3)), (22, (.iload_n 1, 1)), (23, (.iload_n 2, 1)), (24, (.if_icmp .ne 5, 3)), (27, (.iconst (-1), 1)), (28, (.ireturn, 1)), (29, (.aload_n 0, 1)), (30, (.invokevirtual 182, 3))], [(33, (.aload_n 0, 1)), (34, (.getfield 19, 3)), (37, (.iload_n 1, 1)), (38, (.iload_n 2, 1)), (39, (.invokevirtual 203, 3)), (42, (.aload_n 0, 1)), (43, (.getfield 19, 3)), (46, (.iload_n 1, 1)), (47, (.invokevirtual 153, 3))], [(50, (.ireturn, 1))]]
/-- Laws.hire (I)I -/
def jc102 : jCode := [[(0, (.aload_n 0, 1)), (1, (.getfield 19, 3)), (4, (.iload_n 1, 1)), (5, (.invokevirtual 141, 3)), (8, (.ifCond .ne 5, 3)), (11, (.iconst (-1), 1)), (12, (.ireturn, 1)), (13, (.aload_n 0, 1)), (14, (.getfield 19, 3))], [(17, (.iload_n 1, 1)), (18, (.invokevirtual 206, 3)), (21, (.ifCond .ne 6, 3)), (24, (.bipush (-2), 2)), (26, (.ireturn, 1)), (27, (.aload_n 0, 1)), (28, (.invokevirtual 182, 3)), (31, (.aload_n 0, 1))], [(32, (.getfield 19, 3)), (35, (.iload_n 1, 1)), (36, (.invokevirtual 209, 3)), (39, (.aload_n 0, 1)), (40, (.getfield 19, 3)), (43, (.getfield 212, 3)), (46, (.ireturn, 1))]]
/-- Laws.undo ()I -/
def jc103 : jCode := [[(0, (.aload_n 0, 1)), (1, (.getfield 28, 3)), (4, (.getfield 215, 3)), (7, (.ifCond .ne 6, 3)), (10, (.bipush (-2), 2)), (12, (.ireturn, 1)), (13, (.aload_n 0, 1)), (14, (.getfield 28, 3))], [(17, (.aload_n 0, 1)), (18, (.getfield 19, 3)), (21, (.invokevirtual 218, 3)), (24, (.aload_n 0, 1)), (25, (.dup, 1)), (26, (.getfield 221, 3)), (29, (.iconst 1, 1)), (30, (.iadd, 1)), (31, (.putfield 221, 3))], [(34, (.aload_n 0, 1)), (35, (.getfield 28, 3)), (38, (.getfield 215, 3)), (41, (.ireturn, 1))]]
/-- Laws.soonest (II)I -/
def jc104 : jCode := [[(0, (.iload_n 1, 1)), (1, (.iconst 0, 1)), (2, (.sipush 255, 3)), (5, (.invokestatic 106, 3)), (8, (.ifCond .eq 13, 3)), (11, (.iload_n 2, 1)), (12, (.iconst 0, 1)), (13, (.bipush 7, 2)), (15, (.invokestatic 106, 3))], [(18, (.ifCond .ne 5, 3)), (21, (.iconst (-1), 1)), (22, (.ireturn, 1)), (23, (.aload_n 0, 1)), (24, (.getfield 52, 3)), (27, (.aload_n 0, 1)), (28, (.getfield 19, 3)), (31, (.iload_n 1, 1))], [(32, (.aload_n 0, 1)), (33, (.getfield 221, 3)), (36, (.invokevirtual 224, 3)), (39, (.aload_n 0, 1)), (40, (.getfield 52, 3)), (43, (.getfield 228, 3)), (46, (.ifCond .eq 14, 3))], [(49, (.iload_n 2, 1)), (50, (.aload_n 0, 1)), (51, (.getfield 52, 3)), (54, (.getfield 228, 3)), (57, (.if_icmp .le 6, 3)), (60, (.bipush (-4), 2)), (62, (.ireturn, 1)), (63, (.iload_n 2, 1))], [(64, (.ifCond .ne 13, 3)), (67, (.aload_n 0, 1)), (68, (.getfield 52, 3)), (71, (.getfield 229, 3)), (74, (.goto 16, 3)), (77, (.aload_n 0, 1)), (78, (.getfield 52, 3))], [(81, (.getfield 231, 3)), (84, (.iload_n 2, 1)), (85, (.iconst 1, 1)), (86, (.isub, 1)), (87, (.invokevirtual 123, 3)), (90, (.ireturn, 1))]]
/-- Laws.seating (I)I -/
def jc105 : jCode := [[(0, (.iload_n 1, 1)), (1, (.iconst (-1), 1)), (2, (.if_icmp .eq 16, 3)), (5, (.aload_n 0, 1)), (6, (.getfield 19, 3)), (9, (.iload_n 1, 1)), (10, (.invokevirtual 141, 3)), (13, (.ifCond .ne 5, 3))], [(16, (.iconst (-1), 1)), (17, (.ireturn, 1)), (18, (.aload_n 0, 1)), (19, (.getfield 59, 3)), (22, (.aload_n 0, 1)), (23, (.getfield 19, 3)), (26, (.aload_n 0, 1)), (27, (.getfield 221, 3)), (30, (.invokevirtual 234, 3))], [(33, (.iload_n 1, 1)), (34, (.iconst (-1), 1)), (35, (.if_icmp .ne 13, 3)), (38, (.aload_n 0, 1)), (39, (.getfield 59, 3)), (42, (.getfield 236, 3)), (45, (.goto 14, 3))], [(48, (.aload_n 0, 1)), (49, (.getfield 59, 3)), (52, (.getfield 239, 3)), (55, (.iload_n 1, 1)), (56, (.invokevirtual 123, 3)), (59, (.ireturn, 1))]]
/-- Laws.claques (I)I -/
def jc106 : jCode := [[(0, (.iload_n 1, 1)), (1, (.iconst 0, 1)), (2, (.iconst 1, 1)), (3, (.invokestatic 106, 3)), (6, (.ifCond .ne 5, 3)), (9, (.iconst (-1), 1)), (10, (.ireturn, 1)), (11, (.aload_n 0, 1)), (12, (.getfield 66, 3)), (15, (.aload_n 0, 1))], [(16, (.getfield 19, 3)), (19, (.invokevirtual 240, 3)), (22, (.istore_n 2, 1)), (23, (.iload_n 2, 1)), (24, (.bipush (-4), 2)), (26, (.if_icmp .ne 6, 3)), (29, (.bipush (-4), 2)), (31, (.ireturn, 1))], [(32, (.iload_n 1, 1)), (33, (.ifCond .ne 10, 3)), (36, (.iload_n 2, 1)), (37, (.invokestatic 244, 3)), (40, (.goto 4, 3)), (43, (.iload_n 2, 1)), (44, (.ireturn, 1))]]
/-- Laws.falls ()I -/
def jc107 : jCode := [[(0, (.aload_n 0, 1)), (1, (.getfield 66, 3)), (4, (.aload_n 0, 1)), (5, (.getfield 19, 3)), (8, (.invokevirtual 249, 3)), (11, (.ireturn, 1))]]
/-- Laws.run ()I -/
def jc108 : jCode := [[(0, (.aload_n 0, 1)), (1, (.getfield 66, 3)), (4, (.aload_n 0, 1)), (5, (.getfield 19, 3)), (8, (.invokevirtual 252, 3)), (11, (.ireturn, 1))]]
/-- Laws.most (I)I -/
def jc109 : jCode := [[(0, (.iload_n 1, 1)), (1, (.iconst 0, 1)), (2, (.iconst 1, 1)), (3, (.invokestatic 106, 3)), (6, (.ifCond .ne 5, 3)), (9, (.iconst (-1), 1)), (10, (.ireturn, 1)), (11, (.aload_n 0, 1)), (12, (.getfield 66, 3)), (15, (.aload_n 0, 1))], [(16, (.getfield 19, 3)), (19, (.invokevirtual 255, 3)), (22, (.iload_n 1, 1)), (23, (.ifCond .ne 13, 3)), (26, (.aload_n 0, 1)), (27, (.getfield 66, 3)), (30, (.getfield 258, 3))], [(33, (.goto 10, 3)), (36, (.aload_n 0, 1)), (37, (.getfield 66, 3)), (40, (.getfield 261, 3)), (43, (.ireturn, 1))]]
/-- Laws.see (II)I -/
def jc110 : jCode := [[(0, (.aload_n 0, 1)), (1, (.getfield 19, 3)), (4, (.iload_n 1, 1)), (5, (.invokevirtual 141, 3)), (8, (.ifCond .eq 13, 3)), (11, (.iload_n 2, 1)), (12, (.iconst 0, 1)), (13, (.bipush 7, 2)), (15, (.invokestatic 106, 3))], [(18, (.ifCond .ne 5, 3)), (21, (.iconst (-1), 1)), (22, (.ireturn, 1)), (23, (.aload_n 0, 1)), (24, (.getfield 38, 3)), (27, (.iload_n 1, 1)), (28, (.iload_n 2, 1)), (29, (.invokevirtual 264, 3))], [(32, (.ifCond .eq 13, 3)), (35, (.aload_n 0, 1)), (36, (.getfield 38, 3)), (39, (.getfield 268, 3)), (42, (.goto 5, 3)), (45, (.bipush (-3), 2)), (47, (.ireturn, 1))]]
/-- Laws.forget ()I -/
def jc111 : jCode := [[(0, (.aload_n 0, 1)), (1, (.getfield 38, 3)), (4, (.getfield 268, 3)), (7, (.istore_n 1, 1)), (8, (.aload_n 0, 1)), (9, (.getfield 38, 3)), (12, (.iconst 0, 1)), (13, (.putfield 268, 3))], [(16, (.iload_n 1, 1)), (17, (.ireturn, 1))]]
/-- Laws.fits (II)I -/
def jc112 : jCode := [[(0, (.aload_n 0, 1)), (1, (.getfield 19, 3)), (4, (.iload_n 1, 1)), (5, (.invokevirtual 141, 3)), (8, (.ifCond .eq 12, 3)), (11, (.iload_n 2, 1)), (12, (.iconst 0, 1)), (13, (.iconst 1, 1)), (14, (.invokestatic 106, 3))], [(17, (.ifCond .ne 5, 3)), (20, (.iconst (-1), 1)), (21, (.ireturn, 1)), (22, (.iload_n 2, 1)), (23, (.ifCond .ne 22, 3)), (26, (.aload_n 0, 1)), (27, (.getfield 66, 3)), (30, (.aload_n 0, 1)), (31, (.getfield 19, 3))], [(34, (.aload_n 0, 1)), (35, (.getfield 38, 3)), (38, (.iload_n 1, 1)), (39, (.invokevirtual 271, 3)), (42, (.goto 19, 3)), (45, (.aload_n 0, 1)), (46, (.getfield 66, 3))], [(49, (.aload_n 0, 1)), (50, (.getfield 19, 3)), (53, (.aload_n 0, 1)), (54, (.getfield 38, 3)), (57, (.iload_n 1, 1)), (58, (.invokevirtual 275, 3)), (61, (.ireturn, 1))]]
/-- Laws.coughs (II)I -/
def jc113 : jCode := [[(0, (.iload_n 1, 1)), (1, (.iconst 0, 1)), (2, (.bipush 10, 2)), (4, (.invokestatic 106, 3)), (7, (.ifCond .eq 12, 3)), (10, (.iload_n 2, 1)), (11, (.iconst 0, 1)), (12, (.iconst 1, 1)), (13, (.invokestatic 106, 3))], [(16, (.ifCond .ne 5, 3)), (19, (.iconst (-1), 1)), (20, (.ireturn, 1)), (21, (.aload_n 0, 1)), (22, (.getfield 73, 3)), (25, (.aload_n 0, 1)), (26, (.getfield 19, 3)), (29, (.iload_n 1, 1)), (30, (.invokevirtual 278, 3))], [(33, (.iload_n 2, 1)), (34, (.ifCond .ne 13, 3)), (37, (.aload_n 0, 1)), (38, (.getfield 73, 3)), (41, (.getfield 281, 3)), (44, (.goto 10, 3)), (47, (.aload_n 0, 1))], [(48, (.getfield 73, 3)), (51, (.getfield 284, 3)), (54, (.ireturn, 1))]]
/-- Laws.season (III)I -/
def jc114 : jCode := [[(0, (.iload_n 1, 1)), (1, (.iconst 0, 1)), (2, (.sipush 9999, 3)), (5, (.invokestatic 106, 3)), (8, (.ifCond .eq 22, 3)), (11, (.iload_n 2, 1)), (12, (.iconst 1, 1)), (13, (.bipush 40, 2)), (15, (.invokestatic 106, 3))], [(18, (.ifCond .eq 12, 3)), (21, (.iload_n 3, 1)), (22, (.iconst 0, 1)), (23, (.iconst 1, 1)), (24, (.invokestatic 106, 3)), (27, (.ifCond .ne 5, 3)), (30, (.iconst (-1), 1)), (31, (.ireturn, 1))], [(32, (.aload_n 0, 1)), (33, (.getfield 73, 3)), (36, (.aload_n 0, 1)), (37, (.getfield 19, 3)), (40, (.iload_n 1, 1)), (41, (.iload_n 2, 1)), (42, (.invokevirtual 287, 3)), (45, (.iload_n 3, 1)), (46, (.ifCond .ne 24, 3))], [(49, (.aload_n 0, 1)), (50, (.getfield 73, 3)), (53, (.getfield 290, 3)), (56, (.getfield 293, 3)), (59, (.aload_n 0, 1)), (60, (.getfield 19, 3)), (63, (.getfield 293, 3))], [(66, (.isub, 1)), (67, (.goto 13, 3)), (70, (.aload_n 0, 1)), (71, (.getfield 73, 3)), (74, (.getfield 290, 3)), (77, (.invokevirtual 296, 3))], [(80, (.ireturn, 1))]]
/-- Laws.keep ()I -/
def jc115 : jCode := [[(0, (.aload_n 0, 1)), (1, (.getfield 32, 3)), (4, (.getfield 215, 3)), (7, (.iconst 2, 1)), (8, (.if_icmp .lt 6, 3)), (11, (.bipush (-3), 2)), (13, (.ireturn, 1)), (14, (.aload_n 0, 1)), (15, (.getfield 32, 3))], [(18, (.aload_n 0, 1)), (19, (.getfield 19, 3)), (22, (.invokevirtual 299, 3)), (25, (.aload_n 0, 1)), (26, (.getfield 32, 3)), (29, (.getfield 215, 3))], [(32, (.ireturn, 1))]]
/-- Laws.back ()I -/
def jc116 : jCode := [[(0, (.aload_n 0, 1)), (1, (.getfield 32, 3)), (4, (.getfield 215, 3)), (7, (.ifCond .ne 6, 3)), (10, (.bipush (-2), 2)), (12, (.ireturn, 1)), (13, (.aload_n 0, 1)), (14, (.getfield 32, 3))], [(17, (.aload_n 0, 1)), (18, (.getfield 19, 3)), (21, (.invokevirtual 218, 3)), (24, (.aload_n 0, 1)), (25, (.getfield 28, 3)), (28, (.iconst 0, 1)), (29, (.putfield 215, 3))], [(32, (.aload_n 0, 1)), (33, (.dup, 1)), (34, (.getfield 221, 3)), (37, (.iconst 1, 1)), (38, (.iadd, 1)), (39, (.putfield 221, 3)), (42, (.aload_n 0, 1)), (43, (.getfield 32, 3)), (46, (.getfield 215, 3))], [(49, (.ireturn, 1))]]
/-- Laws.count (I)I -/
def jc117 : jCode := [[(0, (.iload_n 1, 1)), (1, (.tableswitch 159 0 11 #[63, 71, 79, 87, 95, 103, 111, 119, 127, 135, 143, 151], 63))], [], [], [], [(64, (.aload_n 0, 1)), (65, (.getfield 19, 3)), (68, (.getfield 110, 3)), (71, (.ireturn, 1)), (72, (.aload_n 0, 1)), (73, (.getfield 19, 3)), (76, (.getfield 113, 3)), (79, (.ireturn, 1))], [(80, (.aload_n 0, 1)), (81, (.getfield 19, 3)), (84, (.getfield 185, 3)), (87, (.ireturn, 1)), (88, (.aload_n 0, 1)), (89, (.getfield 19, 3)), (92, (.getfield 212, 3)), (95, (.ireturn, 1))], [(96, (.aload_n 0, 1)), (97, (.getfield 19, 3)), (100, (.getfield 302, 3)), (103, (.ireturn, 1)), (104, (.aload_n 0, 1)), (105, (.getfield 19, 3)), (108, (.getfield 293, 3)), (111, (.ireturn, 1))], [(112, (.aload_n 0, 1)), (113, (.getfield 19, 3)), (116, (.invokevirtual 305, 3)), (119, (.ireturn, 1)), (120, (.aload_n 0, 1)), (121, (.getfield 19, 3)), (124, (.invokevirtual 296, 3)), (127, (.ireturn, 1))], [(128, (.aload_n 0, 1)), (129, (.getfield 38, 3)), (132, (.getfield 268, 3)), (135, (.ireturn, 1)), (136, (.aload_n 0, 1)), (137, (.getfield 28, 3)), (140, (.getfield 215, 3)), (143, (.ireturn, 1))], [(144, (.aload_n 0, 1)), (145, (.getfield 32, 3)), (148, (.getfield 215, 3)), (151, (.ireturn, 1)), (152, (.aload_n 0, 1)), (153, (.getfield 12, 3)), (156, (.getfield 103, 3)), (159, (.ireturn, 1))], [(160, (.iconst (-1), 1)), (161, (.ireturn, 1))]]
/-- Laws.open (LPlayedLaws$House;)V -/
def jc118 : jCode := [[(0, (.aload_n 0, 1)), (1, (.getfield 19, 3)), (4, (.aload_n 1, 1)), (5, (.invokevirtual 308, 3)), (8, (.aload_n 0, 1)), (9, (.getfield 28, 3)), (12, (.iconst 0, 1)), (13, (.putfield 215, 3))], [(16, (.aload_n 0, 1)), (17, (.getfield 32, 3)), (20, (.iconst 0, 1)), (21, (.putfield 215, 3)), (24, (.aload_n 0, 1)), (25, (.getfield 38, 3)), (28, (.iconst 0, 1)), (29, (.putfield 268, 3))], [(32, (.aload_n 0, 1)), (33, (.dup, 1)), (34, (.getfield 221, 3)), (37, (.iconst 1, 1)), (38, (.iadd, 1)), (39, (.putfield 221, 3)), (42, (.return_, 1))]]
/-- Laws.remember ()V -/
def jc119 : jCode := [[(0, (.aload_n 0, 1)), (1, (.getfield 28, 3)), (4, (.aload_n 0, 1)), (5, (.getfield 19, 3)), (8, (.invokevirtual 299, 3)), (11, (.aload_n 0, 1)), (12, (.dup, 1)), (13, (.getfield 221, 3))], [(16, (.iconst 1, 1)), (17, (.iadd, 1)), (18, (.putfield 221, 3)), (21, (.return_, 1))]]
/-- Laws.within (III)Z -/
def jc120 : jCode := [[(0, (.iload_n 0, 1)), (1, (.iload_n 1, 1)), (2, (.if_icmp .lt 12, 3)), (5, (.iload_n 0, 1)), (6, (.iload_n 2, 1)), (7, (.if_icmp .gt 7, 3)), (10, (.iconst 1, 1)), (11, (.goto 4, 3)), (14, (.iconst 0, 1)), (15, (.ireturn, 1))]]
/-- Laws.isIn (II)Z -/
def jc121 : jCode := [[(0, (.iload_n 0, 1)), (1, (.iload_n 1, 1)), (2, (.ishr, 1)), (3, (.iconst 1, 1)), (4, (.iand, 1)), (5, (.ifCond .eq 7, 3)), (8, (.iconst 1, 1)), (9, (.goto 4, 3)), (12, (.iconst 0, 1)), (13, (.ireturn, 1))]]
/-- Model.init ()V -/
def jc122 : jCode := [[(0, (.aload_n 0, 1)), (1, (.invokespecial 1, 3)), (4, (.aload_n 0, 1)), (5, (.sipush 200, 3)), (8, (.newarray .byte, 2)), (10, (.putfield 7, 3)), (13, (.aload_n 0, 1)), (14, (.iconst 2, 1)), (15, (.newarray .int, 2))], [(17, (.putfield 13, 3)), (20, (.aload_n 0, 1)), (21, (.bipush 14, 2)), (23, (.newarray .int, 2)), (25, (.putfield 17, 3)), (28, (.aload_n 0, 1)), (29, (.bipush 14, 2)), (31, (.newarray .int, 2))], [(33, (.putfield 20, 3)), (36, (.aload_n 0, 1)), (37, (.bipush 14, 2)), (39, (.newarray .int, 2)), (41, (.putfield 23, 3)), (44, (.aload_n 0, 1)), (45, (.iconst 2, 1)), (46, (.newarray .int, 2))], [(48, (.putfield 26, 3)), (51, (.aload_n 0, 1)), (52, (.bipush 7, 2)), (54, (.newarray .int, 2)), (56, (.putfield 29, 3)), (59, (.aload_n 0, 1)), (60, (.bipush 14, 2)), (62, (.newarray .int, 2))], [(64, (.putfield 32, 3)), (67, (.aload_n 0, 1)), (68, (.bipush 14, 2)), (70, (.newarray .int, 2)), (72, (.putfield 35, 3)), (75, (.aload_n 0, 1)), (76, (.bipush 7, 2)), (78, (.newarray .int, 2))], [(80, (.putfield 38, 3)), (83, (.aload_n 0, 1)), (84, (.bipush 39, 2)), (86, (.newarray .int, 2)), (88, (.putfield 41, 3)), (91, (.aload_n 0, 1)), (92, (.sipush 312, 3)), (95, (.newarray .int, 2))], [(97, (.putfield 44, 3)), (100, (.aload_n 0, 1)), (101, (.bipush 78, 2)), (103, (.newarray .int, 2)), (105, (.putfield 47, 3)), (108, (.aload_n 0, 1)), (109, (.bipush 39, 2)), (111, (.newarray .int, 2))], [(113, (.putfield 50, 3)), (116, (.aload_n 0, 1)), (117, (.bipush 7, 2)), (119, (.newarray .int, 2)), (121, (.putfield 53, 3)), (124, (.aload_n 0, 1)), (125, (.bipush 7, 2)), (127, (.newarray .int, 2))], [(129, (.putfield 56, 3)), (132, (.aload_n 0, 1)), (133, (.bipush 7, 2)), (135, (.newarray .boolean, 2)), (137, (.putfield 59, 3)), (140, (.aload_n 0, 1)), (141, (.bipush 7, 2)), (143, (.newarray .int, 2))], [(145, (.putfield 63, 3)), (148, (.aload_n 0, 1)), (149, (.bipush 7, 2)), (151, (.newarray .int, 2)), (153, (.putfield 66, 3)), (156, (.aload_n 0, 1)), (157, (.bipush 6, 2)), (159, (.newarray .int, 2))], [(161, (.putfield 69, 3)), (164, (.aload_n 0, 1)), (165, (.bipush 6, 2)), (167, (.newarray .int, 2)), (169, (.putfield 72, 3)), (172, (.aload_n 0, 1)), (173, (.invokevirtual 75, 3))], [(176, (.aload_n 0, 1)), (177, (.invokevirtual 78, 3)), (180, (.return_, 1))]]
/-- Model.in (III)Z -/
def jc123 : jCode := [[(0, (.iload_n 0, 1)), (1, (.iload_n 1, 1)), (2, (.if_icmp .lt 12, 3)), (5, (.iload_n 0, 1)), (6, (.iload_n 2, 1)), (7, (.if_icmp .gt 7, 3)), (10, (.iconst 1, 1)), (11, (.goto 4, 3)), (14, (.iconst 0, 1)), (15, (.ireturn, 1))]]
/-- Model.write (I)I -/
def jc124 : jCode := [[(0, (.iload_n 1, 1)), (1, (.bipush 32, 2)), (3, (.bipush 126, 2)), (5, (.invokestatic 81, 3)), (8, (.ifCond .ne 5, 3)), (11, (.iconst (-1), 1)), (12, (.ireturn, 1)), (13, (.aload_n 0, 1)), (14, (.getfield 85, 3))], [(17, (.sipush 200, 3)), (20, (.if_icmp .ne 6, 3)), (23, (.bipush (-3), 2)), (25, (.ireturn, 1)), (26, (.aload_n 0, 1)), (27, (.getfield 7, 3)), (30, (.aload_n 0, 1)), (31, (.getfield 85, 3))], [(34, (.iload_n 1, 1)), (35, (.i2b, 1)), (36, (.bastore, 1)), (37, (.aload_n 0, 1)), (38, (.dup, 1)), (39, (.getfield 85, 3)), (42, (.iconst 1, 1)), (43, (.iadd, 1)), (44, (.putfield 85, 3)), (47, (.aload_n 0, 1))], [(48, (.getfield 85, 3)), (51, (.ireturn, 1))]]
/-- Model.wipe ()I -/
def jc125 : jCode := [[(0, (.aload_n 0, 1)), (1, (.getfield 85, 3)), (4, (.istore_n 1, 1)), (5, (.aload_n 0, 1)), (6, (.iconst 0, 1)), (7, (.putfield 85, 3)), (10, (.iload_n 1, 1)), (11, (.ireturn, 1))]]
/-- Model.here ()I -/
def jc126 : jCode := [[(0, (.aload_n 0, 1)), (1, (.getfield 89, 3)), (4, (.aload_n 0, 1)), (5, (.getfield 85, 3)), (8, (.if_icmp .ge 15, 3)), (11, (.aload_n 0, 1)), (12, (.getfield 7, 3)), (15, (.aload_n 0, 1))], [(16, (.getfield 89, 3)), (19, (.baload, 1)), (20, (.goto 5, 3)), (23, (.bipush (-4), 2)), (25, (.ireturn, 1))]]
/-- Model.isFigure ()Z -/
def jc127 : jCode := [[(0, (.aload_n 0, 1)), (1, (.invokevirtual 92, 3)), (4, (.bipush 48, 2)), (6, (.bipush 57, 2)), (8, (.invokestatic 81, 3)), (11, (.ireturn, 1))]]
/-- Model.due (I)V -/
def jc128 : jCode := [[(0, (.aload_n 0, 1)), (1, (.aload_n 0, 1)), (2, (.getfield 96, 3)), (5, (.ifCond .ne 11, 3)), (8, (.aload_n 0, 1)), (9, (.invokevirtual 92, 3)), (12, (.iload_n 1, 1)), (13, (.if_icmp .eq 7, 3))], [(16, (.iconst 1, 1)), (17, (.goto 4, 3)), (20, (.iconst 0, 1)), (21, (.putfield 96, 3)), (24, (.aload_n 0, 1)), (25, (.dup, 1)), (26, (.getfield 89, 3)), (29, (.iconst 1, 1)), (30, (.iadd, 1)), (31, (.putfield 89, 3))], [(34, (.return_, 1))]]
/-- Model.number (II)I -/
def jc129 : jCode := [[(0, (.bipush (-4), 2)), (2, (.istore_n 3, 1)), (3, (.iconst 0, 1)), (4, (.istore 4, 2)), (6, (.iload 4, 2)), (8, (.iconst 2, 1)), (9, (.if_icmp .ge 49, 3)), (12, (.aload_n 0, 1)), (13, (.invokevirtual 100, 3))], [(16, (.ifCond .eq 42, 3)), (19, (.iload_n 3, 1)), (20, (.bipush (-4), 2)), (22, (.if_icmp .ne 7, 3)), (25, (.iconst 0, 1)), (26, (.goto 7, 3)), (29, (.bipush 10, 2)), (31, (.iload_n 3, 1))], [(32, (.imul, 1)), (33, (.aload_n 0, 1)), (34, (.invokevirtual 92, 3)), (37, (.iadd, 1)), (38, (.bipush 48, 2)), (40, (.isub, 1)), (41, (.istore_n 3, 1)), (42, (.aload_n 0, 1)), (43, (.dup, 1)), (44, (.getfield 89, 3)), (47, (.iconst 1, 1))], [(48, (.iadd, 1)), (49, (.putfield 89, 3)), (52, (.iinc 4 1, 3)), (55, (.goto (-49), 3)), (58, (.aload_n 0, 1)), (59, (.aload_n 0, 1)), (60, (.getfield 96, 3)), (63, (.ifCond .ne 12, 3))], [(66, (.iload_n 3, 1)), (67, (.iload_n 1, 1)), (68, (.iload_n 2, 1)), (69, (.invokestatic 81, 3)), (72, (.ifCond .ne 7, 3)), (75, (.iconst 1, 1)), (76, (.goto 4, 3)), (79, (.iconst 0, 1))], [(80, (.putfield 96, 3)), (83, (.iload_n 3, 1)), (84, (.ireturn, 1))]]
/-- Model.readScene ()V -/
def jc130 : jCode := [[(0, (.bipush 7, 2)), (2, (.aload_n 0, 1)), (3, (.getfield 13, 3)), (6, (.iconst 1, 1)), (7, (.iaload, 1)), (8, (.iadd, 1)), (9, (.istore_n 1, 1)), (10, (.aload_n 0, 1)), (11, (.getfield 13, 3)), (14, (.iconst 1, 1)), (15, (.iaload, 1))], [(16, (.bipush 7, 2)), (18, (.if_icmp .ne 9, 3)), (21, (.aload_n 0, 1)), (22, (.iconst 1, 1)), (23, (.putfield 96, 3)), (26, (.return_, 1)), (27, (.aload_n 0, 1)), (28, (.getfield 17, 3)), (31, (.iload_n 1, 1))], [(32, (.aload_n 0, 1)), (33, (.iconst 0, 1)), (34, (.iconst 3, 1)), (35, (.invokevirtual 104, 3)), (38, (.iastore, 1)), (39, (.aload_n 0, 1)), (40, (.bipush 44, 2)), (42, (.invokevirtual 108, 3)), (45, (.aload_n 0, 1)), (46, (.getfield 20, 3))], [(49, (.iload_n 1, 1)), (50, (.aload_n 0, 1)), (51, (.iconst 1, 1)), (52, (.bipush 20, 2)), (54, (.invokevirtual 104, 3)), (57, (.iastore, 1)), (58, (.aload_n 0, 1)), (59, (.bipush 44, 2)), (61, (.invokevirtual 108, 3))], [(64, (.aload_n 0, 1)), (65, (.getfield 23, 3)), (68, (.iload_n 1, 1)), (69, (.aload_n 0, 1)), (70, (.iconst 0, 1)), (71, (.bipush 8, 2)), (73, (.invokevirtual 104, 3)), (76, (.iastore, 1)), (77, (.aload_n 0, 1)), (78, (.getfield 13, 3))], [(81, (.iconst 1, 1)), (82, (.dup2, 1)), (83, (.iaload, 1)), (84, (.iconst 1, 1)), (85, (.iadd, 1)), (86, (.iastore, 1)), (87, (.return_, 1))]]
/-- Model.readSeat ()V -/
def jc131 : jCode := [[(0, (.aload_n 0, 1)), (1, (.getfield 26, 3)), (4, (.iconst 1, 1)), (5, (.iaload, 1)), (6, (.bipush 7, 2)), (8, (.if_icmp .ne 9, 3)), (11, (.aload_n 0, 1)), (12, (.iconst 1, 1)), (13, (.putfield 96, 3))], [(16, (.return_, 1)), (17, (.aload_n 0, 1)), (18, (.getfield 29, 3)), (21, (.aload_n 0, 1)), (22, (.getfield 26, 3)), (25, (.iconst 1, 1)), (26, (.iaload, 1)), (27, (.aload_n 0, 1)), (28, (.iconst 0, 1)), (29, (.iconst 3, 1)), (30, (.invokevirtual 104, 3))], [(33, (.iastore, 1)), (34, (.aload_n 0, 1)), (35, (.bipush 44, 2)), (37, (.invokevirtual 108, 3)), (40, (.aload_n 0, 1)), (41, (.getfield 32, 3)), (44, (.bipush 7, 2)), (46, (.aload_n 0, 1)), (47, (.getfield 26, 3))], [(50, (.iconst 1, 1)), (51, (.iaload, 1)), (52, (.iadd, 1)), (53, (.aload_n 0, 1)), (54, (.iconst 0, 1)), (55, (.iconst 3, 1)), (56, (.invokevirtual 104, 3)), (59, (.iastore, 1)), (60, (.aload_n 0, 1)), (61, (.bipush 44, 2)), (63, (.invokevirtual 108, 3))], [(66, (.aload_n 0, 1)), (67, (.getfield 35, 3)), (70, (.bipush 7, 2)), (72, (.aload_n 0, 1)), (73, (.getfield 26, 3)), (76, (.iconst 1, 1)), (77, (.iaload, 1)), (78, (.iadd, 1)), (79, (.aload_n 0, 1))], [(80, (.iconst 0, 1)), (81, (.bipush 30, 2)), (83, (.invokevirtual 104, 3)), (86, (.iastore, 1)), (87, (.aload_n 0, 1)), (88, (.getfield 26, 3)), (91, (.iconst 1, 1)), (92, (.dup2, 1)), (93, (.iaload, 1)), (94, (.iconst 1, 1)), (95, (.iadd, 1))], [(96, (.iastore, 1)), (97, (.return_, 1))]]
/-- Model.readBill ()V -/
def jc132 : jCode := [[(0, (.iconst 0, 1)), (1, (.istore_n 1, 1)), (2, (.aload_n 0, 1)), (3, (.iconst 0, 1)), (4, (.putfield 112, 3)), (7, (.aload_n 0, 1)), (8, (.invokevirtual 100, 3)), (11, (.ifCond .eq 92, 3)), (14, (.aload_n 0, 1)), (15, (.getfield 96, 3))], [(18, (.ifCond .ne 85, 3)), (21, (.aload_n 0, 1)), (22, (.invokevirtual 92, 3)), (25, (.bipush 48, 2)), (27, (.isub, 1)), (28, (.istore_n 2, 1)), (29, (.aload_n 0, 1)), (30, (.iload_n 2, 1)), (31, (.aload_n 0, 1))], [(32, (.getfield 13, 3)), (35, (.iconst 1, 1)), (36, (.iaload, 1)), (37, (.if_icmp .ge 12, 3)), (40, (.iload_n 1, 1)), (41, (.iload_n 2, 1)), (42, (.ishr, 1)), (43, (.iconst 1, 1)), (44, (.iand, 1)), (45, (.iconst 1, 1)), (46, (.if_icmp .ne 7, 3))], [(49, (.iconst 1, 1)), (50, (.goto 4, 3)), (53, (.iconst 0, 1)), (54, (.putfield 96, 3)), (57, (.aload_n 0, 1)), (58, (.getfield 96, 3)), (61, (.ifCond .ne 39, 3))], [(64, (.iload_n 1, 1)), (65, (.iconst 1, 1)), (66, (.iload_n 2, 1)), (67, (.ishl, 1)), (68, (.ior, 1)), (69, (.istore_n 1, 1)), (70, (.aload_n 0, 1)), (71, (.getfield 38, 3)), (74, (.aload_n 0, 1)), (75, (.getfield 112, 3)), (78, (.iload_n 2, 1)), (79, (.iastore, 1))], [(80, (.aload_n 0, 1)), (81, (.dup, 1)), (82, (.getfield 112, 3)), (85, (.iconst 1, 1)), (86, (.iadd, 1)), (87, (.putfield 112, 3)), (90, (.aload_n 0, 1)), (91, (.dup, 1)), (92, (.getfield 89, 3)), (95, (.iconst 1, 1))], [(96, (.iadd, 1)), (97, (.putfield 89, 3)), (100, (.goto (-93), 3)), (103, (.aload_n 0, 1)), (104, (.aload_n 0, 1)), (105, (.getfield 96, 3)), (108, (.ifCond .ne 10, 3)), (111, (.aload_n 0, 1))], [(112, (.getfield 112, 3)), (115, (.ifCond .ne 7, 3)), (118, (.iconst 1, 1)), (119, (.goto 4, 3)), (122, (.iconst 0, 1)), (123, (.putfield 96, 3)), (126, (.return_, 1))]]
/-- Model.readItem ()V -/
def jc133 : jCode := [[(0, (.aload_n 0, 1)), (1, (.invokevirtual 92, 3)), (4, (.istore_n 1, 1)), (5, (.aload_n 0, 1)), (6, (.dup, 1)), (7, (.getfield 89, 3)), (10, (.iconst 1, 1)), (11, (.iadd, 1)), (12, (.putfield 89, 3)), (15, (.iload_n 1, 1))], [(16, (.lookupswitch 79 #[(98, 58), (103, 65), (104, 51), (115, 44)], 44))], [], [(60, (.aload_n 0, 1)), (61, (.invokevirtual 115, 3))], [(64, (.goto 36, 3)), (67, (.aload_n 0, 1)), (68, (.invokevirtual 118, 3)), (71, (.goto 29, 3)), (74, (.aload_n 0, 1)), (75, (.invokevirtual 121, 3)), (78, (.goto 22, 3))], [(81, (.aload_n 0, 1)), (82, (.aload_n 0, 1)), (83, (.iconst 0, 1)), (84, (.bipush 99, 2)), (86, (.invokevirtual 104, 3)), (89, (.putfield 124, 3)), (92, (.goto 8, 3)), (95, (.aload_n 0, 1))], [(96, (.iconst 1, 1)), (97, (.putfield 96, 3)), (100, (.aload_n 0, 1)), (101, (.bipush 59, 2)), (103, (.invokevirtual 108, 3)), (106, (.return_, 1))]]
/-- Model.read ()I -/
def jc134 : jCode := [[(0, (.aload_n 0, 1)), (1, (.iconst 0, 1)), (2, (.putfield 89, 3)), (5, (.aload_n 0, 1)), (6, (.iconst 0, 1)), (7, (.putfield 96, 3)), (10, (.aload_n 0, 1)), (11, (.getfield 13, 3)), (14, (.iconst 1, 1)), (15, (.iconst 0, 1))], [(16, (.iastore, 1)), (17, (.aload_n 0, 1)), (18, (.getfield 26, 3)), (21, (.iconst 1, 1)), (22, (.iconst 0, 1)), (23, (.iastore, 1)), (24, (.aload_n 0, 1)), (25, (.iconst 0, 1)), (26, (.putfield 112, 3)), (29, (.aload_n 0, 1)), (30, (.bipush 20, 2))], [(32, (.putfield 124, 3)), (35, (.aload_n 0, 1)), (36, (.getfield 89, 3)), (39, (.aload_n 0, 1)), (40, (.getfield 85, 3)), (43, (.if_icmp .ge 24, 3)), (46, (.aload_n 0, 1)), (47, (.getfield 89, 3))], [(50, (.istore_n 1, 1)), (51, (.aload_n 0, 1)), (52, (.invokevirtual 127, 3)), (55, (.aload_n 0, 1)), (56, (.getfield 96, 3)), (59, (.ifCond .eq 5, 3)), (62, (.iload_n 1, 1)), (63, (.ireturn, 1))], [(64, (.goto (-29), 3)), (67, (.bipush (-4), 2)), (69, (.ireturn, 1))]]
/-- Model.fault ()I -/
def jc135 : jCode := [[(0, (.aload_n 0, 1)), (1, (.invokevirtual 130, 3)), (4, (.ireturn, 1))]]
/-- Model.tellScene (III)V -/
def jc136 : jCode := [[(0, (.aload_n 0, 1)), (1, (.getfield 17, 3)), (4, (.bipush 7, 2)), (6, (.aload_n 0, 1)), (7, (.getfield 13, 3)), (10, (.iconst 1, 1)), (11, (.iaload, 1)), (12, (.iadd, 1)), (13, (.iload_n 1, 1)), (14, (.iastore, 1)), (15, (.aload_n 0, 1))], [(16, (.getfield 20, 3)), (19, (.bipush 7, 2)), (21, (.aload_n 0, 1)), (22, (.getfield 13, 3)), (25, (.iconst 1, 1)), (26, (.iaload, 1)), (27, (.iadd, 1)), (28, (.iload_n 2, 1)), (29, (.iastore, 1)), (30, (.aload_n 0, 1)), (31, (.getfield 23, 3))], [(34, (.bipush 7, 2)), (36, (.aload_n 0, 1)), (37, (.getfield 13, 3)), (40, (.iconst 1, 1)), (41, (.iaload, 1)), (42, (.iadd, 1)), (43, (.iload_n 3, 1)), (44, (.iastore, 1)), (45, (.aload_n 0, 1)), (46, (.getfield 13, 3))], [(49, (.iconst 1, 1)), (50, (.dup2, 1)), (51, (.iaload, 1)), (52, (.iconst 1, 1)), (53, (.iadd, 1)), (54, (.iastore, 1)), (55, (.return_, 1))]]
/-- Model.chair (III)V -/
def jc137 : jCode := [[(0, (.aload_n 0, 1)), (1, (.getfield 29, 3)), (4, (.aload_n 0, 1)), (5, (.getfield 26, 3)), (8, (.iconst 1, 1)), (9, (.iaload, 1)), (10, (.iload_n 1, 1)), (11, (.iastore, 1)), (12, (.aload_n 0, 1)), (13, (.getfield 32, 3))], [(16, (.bipush 7, 2)), (18, (.aload_n 0, 1)), (19, (.getfield 26, 3)), (22, (.iconst 1, 1)), (23, (.iaload, 1)), (24, (.iadd, 1)), (25, (.iload_n 2, 1)), (26, (.iastore, 1)), (27, (.aload_n 0, 1)), (28, (.getfield 35, 3)), (31, (.bipush 7, 2))], [(33, (.aload_n 0, 1)), (34, (.getfield 26, 3)), (37, (.iconst 1, 1)), (38, (.iaload, 1)), (39, (.iadd, 1)), (40, (.iload_n 3, 1)), (41, (.iastore, 1)), (42, (.aload_n 0, 1)), (43, (.getfield 26, 3)), (46, (.iconst 1, 1)), (47, (.dup2, 1))], [(48, (.iaload, 1)), (49, (.iconst 1, 1)), (50, (.iadd, 1)), (51, (.iastore, 1)), (52, (.return_, 1))]]
/-- Model.onBill (I)V -/
def jc138 : jCode := [[(0, (.aload_n 0, 1)), (1, (.getfield 38, 3)), (4, (.aload_n 0, 1)), (5, (.getfield 112, 3)), (8, (.iload_n 1, 1)), (9, (.iastore, 1)), (10, (.aload_n 0, 1)), (11, (.dup, 1)), (12, (.getfield 112, 3)), (15, (.iconst 1, 1))], [(16, (.iadd, 1)), (17, (.putfield 112, 3)), (20, (.return_, 1))]]
/-- Model.first ()V -/
def jc139 : jCode := [[(0, (.aload_n 0, 1)), (1, (.iconst 0, 1)), (2, (.bipush 8, 2)), (4, (.iconst 0, 1)), (5, (.invokevirtual 133, 3)), (8, (.aload_n 0, 1)), (9, (.iconst 2, 1)), (10, (.bipush 6, 2)), (12, (.iconst 1, 1)), (13, (.invokevirtual 133, 3))], [(16, (.aload_n 0, 1)), (17, (.iconst 1, 1)), (18, (.iconst 4, 1)), (19, (.bipush 8, 2)), (21, (.invokevirtual 133, 3)), (24, (.aload_n 0, 1)), (25, (.iconst 3, 1)), (26, (.bipush 12, 2)), (28, (.iconst 2, 1)), (29, (.invokevirtual 133, 3))], [(32, (.aload_n 0, 1)), (33, (.iconst 0, 1)), (34, (.bipush 10, 2)), (36, (.iconst 3, 1)), (37, (.invokevirtual 133, 3)), (40, (.aload_n 0, 1)), (41, (.iconst 0, 1)), (42, (.iconst 2, 1)), (43, (.bipush 9, 2)), (45, (.invokevirtual 137, 3))], [(48, (.aload_n 0, 1)), (49, (.iconst 1, 1)), (50, (.iconst 0, 1)), (51, (.bipush 6, 2)), (53, (.invokevirtual 137, 3)), (56, (.aload_n 0, 1)), (57, (.iconst 0, 1)), (58, (.iconst 1, 1)), (59, (.bipush 14, 2)), (61, (.invokevirtual 137, 3))], [(64, (.aload_n 0, 1)), (65, (.iconst 2, 1)), (66, (.iconst 3, 1)), (67, (.bipush 20, 2)), (69, (.invokevirtual 137, 3)), (72, (.aload_n 0, 1)), (73, (.iconst 0, 1)), (74, (.iconst 0, 1)), (75, (.iconst 5, 1)), (76, (.invokevirtual 137, 3)), (79, (.aload_n 0, 1))], [(80, (.iconst 0, 1)), (81, (.iconst 2, 1)), (82, (.bipush 11, 2)), (84, (.invokevirtual 137, 3)), (87, (.aload_n 0, 1)), (88, (.iconst 0, 1)), (89, (.invokevirtual 140, 3)), (92, (.aload_n 0, 1)), (93, (.iconst 1, 1)), (94, (.invokevirtual 140, 3))], [(97, (.aload_n 0, 1)), (98, (.iconst 4, 1)), (99, (.invokevirtual 140, 3)), (102, (.aload_n 0, 1)), (103, (.iconst 2, 1)), (104, (.invokevirtual 140, 3)), (107, (.aload_n 0, 1)), (108, (.iconst 3, 1)), (109, (.invokevirtual 140, 3))], [(112, (.aload_n 0, 1)), (113, (.bipush 25, 2)), (115, (.putfield 124, 3)), (118, (.return_, 1))]]
/-- Model.takeDraft ()V -/
def jc140 : jCode := [[(0, (.aload_n 0, 1)), (1, (.getfield 13, 3)), (4, (.iconst 0, 1)), (5, (.aload_n 0, 1)), (6, (.getfield 13, 3)), (9, (.iconst 1, 1)), (10, (.iaload, 1)), (11, (.iastore, 1)), (12, (.aload_n 0, 1)), (13, (.getfield 26, 3))], [(16, (.iconst 0, 1)), (17, (.aload_n 0, 1)), (18, (.getfield 26, 3)), (21, (.iconst 1, 1)), (22, (.iaload, 1)), (23, (.iastore, 1)), (24, (.iconst 0, 1)), (25, (.istore_n 1, 1)), (26, (.iload_n 1, 1)), (27, (.bipush 39, 2)), (29, (.if_icmp .ge 16, 3))], [(32, (.aload_n 0, 1)), (33, (.getfield 41, 3)), (36, (.iload_n 1, 1)), (37, (.iconst 0, 1)), (38, (.iastore, 1)), (39, (.iinc 1 1, 3)), (42, (.goto (-16), 3)), (45, (.iconst 0, 1)), (46, (.istore_n 1, 1)), (47, (.iload_n 1, 1))], [(48, (.bipush 7, 2)), (50, (.if_icmp .ge 80, 3)), (53, (.aload_n 0, 1)), (54, (.getfield 17, 3)), (57, (.iload_n 1, 1)), (58, (.aload_n 0, 1)), (59, (.getfield 17, 3)), (62, (.bipush 7, 2))], [(64, (.iload_n 1, 1)), (65, (.iadd, 1)), (66, (.iaload, 1)), (67, (.iastore, 1)), (68, (.aload_n 0, 1)), (69, (.getfield 20, 3)), (72, (.iload_n 1, 1)), (73, (.aload_n 0, 1)), (74, (.getfield 20, 3)), (77, (.bipush 7, 2)), (79, (.iload_n 1, 1))], [(80, (.iadd, 1)), (81, (.iaload, 1)), (82, (.iastore, 1)), (83, (.aload_n 0, 1)), (84, (.getfield 23, 3)), (87, (.iload_n 1, 1)), (88, (.aload_n 0, 1)), (89, (.getfield 23, 3)), (92, (.bipush 7, 2)), (94, (.iload_n 1, 1)), (95, (.iadd, 1))], [(96, (.iaload, 1)), (97, (.iastore, 1)), (98, (.aload_n 0, 1)), (99, (.getfield 41, 3)), (102, (.iconst 0, 1)), (103, (.iload_n 1, 1)), (104, (.iadd, 1)), (105, (.iload_n 1, 1)), (106, (.aload_n 0, 1)), (107, (.getfield 112, 3)), (110, (.if_icmp .ge 12, 3))], [(113, (.aload_n 0, 1)), (114, (.getfield 38, 3)), (117, (.iload_n 1, 1)), (118, (.iaload, 1)), (119, (.goto 4, 3)), (122, (.iconst 0, 1)), (123, (.iastore, 1)), (124, (.iinc 1 1, 3)), (127, (.goto (-80), 3))], [(130, (.iconst 0, 1)), (131, (.istore_n 1, 1)), (132, (.iload_n 1, 1)), (133, (.bipush 7, 2)), (135, (.if_icmp .ge 64, 3)), (138, (.aload_n 0, 1)), (139, (.getfield 32, 3)), (142, (.iload_n 1, 1)), (143, (.aload_n 0, 1))], [(144, (.getfield 32, 3)), (147, (.bipush 7, 2)), (149, (.iload_n 1, 1)), (150, (.iadd, 1)), (151, (.iaload, 1)), (152, (.iastore, 1)), (153, (.aload_n 0, 1)), (154, (.getfield 35, 3)), (157, (.iload_n 1, 1)), (158, (.aload_n 0, 1)), (159, (.getfield 35, 3))], [(162, (.bipush 7, 2)), (164, (.iload_n 1, 1)), (165, (.iadd, 1)), (166, (.iaload, 1)), (167, (.iastore, 1)), (168, (.aload_n 0, 1)), (169, (.getfield 41, 3)), (172, (.bipush 11, 2)), (174, (.iload_n 1, 1)), (175, (.iadd, 1))], [(176, (.aload_n 0, 1)), (177, (.getfield 29, 3)), (180, (.iload_n 1, 1)), (181, (.iaload, 1)), (182, (.iastore, 1)), (183, (.aload_n 0, 1)), (184, (.getfield 41, 3)), (187, (.bipush 18, 2)), (189, (.iload_n 1, 1)), (190, (.iadd, 1)), (191, (.iload_n 1, 1))], [(192, (.iastore, 1)), (193, (.iinc 1 1, 3)), (196, (.goto (-64), 3)), (199, (.aload_n 0, 1)), (200, (.getfield 41, 3)), (203, (.bipush 7, 2)), (205, (.aload_n 0, 1)), (206, (.getfield 112, 3))], [(209, (.iastore, 1)), (210, (.aload_n 0, 1)), (211, (.getfield 41, 3)), (214, (.bipush 8, 2)), (216, (.aload_n 0, 1)), (217, (.getfield 124, 3)), (220, (.iastore, 1)), (221, (.aload_n 0, 1)), (222, (.iconst 0, 1)), (223, (.putfield 143, 3))], [(226, (.aload_n 0, 1)), (227, (.iconst 0, 1)), (228, (.putfield 146, 3)), (231, (.aload_n 0, 1)), (232, (.iconst 0, 1)), (233, (.putfield 149, 3)), (236, (.return_, 1))]]
/-- Model.lay ()I -/
def jc141 : jCode := [[(0, (.aload_n 0, 1)), (1, (.invokevirtual 130, 3)), (4, (.bipush (-4), 2)), (6, (.if_icmp .ne 21, 3)), (9, (.aload_n 0, 1)), (10, (.getfield 13, 3)), (13, (.iconst 1, 1)), (14, (.iaload, 1)), (15, (.ifCond .eq 12, 3))], [(18, (.aload_n 0, 1)), (19, (.getfield 26, 3)), (22, (.iconst 1, 1)), (23, (.iaload, 1)), (24, (.ifCond .ne 6, 3)), (27, (.bipush (-2), 2)), (29, (.ireturn, 1)), (30, (.aload_n 0, 1)), (31, (.invokevirtual 78, 3))], [(34, (.aload_n 0, 1)), (35, (.getfield 26, 3)), (38, (.iconst 0, 1)), (39, (.iaload, 1)), (40, (.ireturn, 1))]]
/-- Model.take ()V -/
def jc142 : jCode := [[(0, (.iconst 0, 1)), (1, (.istore_n 1, 1)), (2, (.iload_n 1, 1)), (3, (.bipush 39, 2)), (5, (.if_icmp .ge 21, 3)), (8, (.aload_n 0, 1)), (9, (.getfield 50, 3)), (12, (.iload_n 1, 1)), (13, (.aload_n 0, 1)), (14, (.getfield 41, 3))], [(17, (.iload_n 1, 1)), (18, (.iaload, 1)), (19, (.iastore, 1)), (20, (.iinc 1 1, 3)), (23, (.goto (-21), 3)), (26, (.return_, 1))]]
/-- Model.isScene (I)Z -/
def jc143 : jCode := [[(0, (.iload_n 1, 1)), (1, (.iconst 0, 1)), (2, (.aload_n 0, 1)), (3, (.getfield 13, 3)), (6, (.iconst 0, 1)), (7, (.iaload, 1)), (8, (.iconst 1, 1)), (9, (.isub, 1)), (10, (.invokestatic 81, 3)), (13, (.ireturn, 1))]]
/-- Model.isSeat (I)Z -/
def jc144 : jCode := [[(0, (.iload_n 1, 1)), (1, (.iconst 0, 1)), (2, (.aload_n 0, 1)), (3, (.getfield 26, 3)), (6, (.iconst 0, 1)), (7, (.iaload, 1)), (8, (.iconst 1, 1)), (9, (.isub, 1)), (10, (.invokestatic 81, 3)), (13, (.ireturn, 1))]]
/-- Model.placeOn ([II)I -/
def jc145 : jCode := [[(0, (.bipush (-4), 2)), (2, (.istore_n 2, 1)), (3, (.iconst 0, 1)), (4, (.istore_n 3, 1)), (5, (.iload_n 3, 1)), (6, (.aload_n 0, 1)), (7, (.bipush 7, 2)), (9, (.iaload, 1)), (10, (.if_icmp .ge 24, 3)), (13, (.aload_n 0, 1)), (14, (.iconst 0, 1)), (15, (.iload_n 3, 1))], [(16, (.iadd, 1)), (17, (.iaload, 1)), (18, (.iload_n 1, 1)), (19, (.if_icmp .ne 7, 3)), (22, (.iload_n 3, 1)), (23, (.goto 4, 3)), (26, (.iload_n 2, 1)), (27, (.istore_n 2, 1)), (28, (.iinc 3 1, 3)), (31, (.goto (-26), 3))], [(34, (.iload_n 2, 1)), (35, (.ireturn, 1))]]
/-- Model.placeIn ([II)I -/
def jc146 : jCode := [[(0, (.iconst 0, 1)), (1, (.istore_n 3, 1)), (2, (.aload_n 1, 1)), (3, (.bipush 18, 2)), (5, (.iload_n 3, 1)), (6, (.iadd, 1)), (7, (.iaload, 1)), (8, (.iload_n 2, 1)), (9, (.if_icmp .eq 9, 3)), (12, (.iinc 3 1, 3)), (15, (.goto (-13), 3))], [(18, (.iload_n 3, 1)), (19, (.ireturn, 1))]]
/-- Model.bitsOf (I)I -/
def jc147 : jCode := [[(0, (.iconst 0, 1)), (1, (.istore_n 1, 1)), (2, (.iconst 0, 1)), (3, (.istore_n 2, 1)), (4, (.iload_n 2, 1)), (5, (.bipush 8, 2)), (7, (.if_icmp .ge 17, 3)), (10, (.iload_n 1, 1)), (11, (.iload_n 0, 1)), (12, (.iload_n 2, 1)), (13, (.ishr, 1)), (14, (.iconst 1, 1)), (15, (.iand, 1))], [(16, (.iadd, 1)), (17, (.istore_n 1, 1)), (18, (.iinc 2 1, 3)), (21, (.goto (-17), 3)), (24, (.iload_n 1, 1)), (25, (.ireturn, 1))]]
/-- Model.claquesOf ([I)I -/
def jc148 : jCode := [[(0, (.iconst 0, 1)), (1, (.istore_n 2, 1)), (2, (.iconst 0, 1)), (3, (.istore_n 3, 1)), (4, (.iload_n 3, 1)), (5, (.aload_n 0, 1)), (6, (.getfield 26, 3)), (9, (.iconst 0, 1)), (10, (.iaload, 1)), (11, (.if_icmp .ge 27, 3)), (14, (.iload_n 2, 1)), (15, (.aload_n 1, 1))], [(16, (.bipush 11, 2)), (18, (.iload_n 3, 1)), (19, (.iadd, 1)), (20, (.iaload, 1)), (21, (.iconst 3, 1)), (22, (.if_icmp .ne 7, 3)), (25, (.iconst 1, 1)), (26, (.goto 4, 3)), (29, (.iconst 0, 1)), (30, (.iadd, 1)), (31, (.istore_n 2, 1))], [(32, (.iinc 3 1, 3)), (35, (.goto (-31), 3)), (38, (.iload_n 2, 1)), (39, (.ireturn, 1))]]
/-- Model.boundOf ([I)I -/
def jc149 : jCode := [[(0, (.iconst 0, 1)), (1, (.istore_n 2, 1)), (2, (.iconst 0, 1)), (3, (.istore_n 3, 1)), (4, (.iload_n 3, 1)), (5, (.aload_n 0, 1)), (6, (.getfield 26, 3)), (9, (.iconst 0, 1)), (10, (.iaload, 1)), (11, (.if_icmp .ge 21, 3)), (14, (.iload_n 2, 1)), (15, (.aload_n 1, 1))], [(16, (.bipush 25, 2)), (18, (.iload_n 3, 1)), (19, (.iadd, 1)), (20, (.iaload, 1)), (21, (.invokestatic 152, 3)), (24, (.iadd, 1)), (25, (.istore_n 2, 1)), (26, (.iinc 3 1, 3)), (29, (.goto (-25), 3))], [(32, (.iload_n 2, 1)), (33, (.ireturn, 1))]]
/-- Model.isGone ([II)Z -/
def jc150 : jCode := [[(0, (.iload_n 2, 1)), (1, (.iconst 0, 1)), (2, (.aload_n 0, 1)), (3, (.getfield 26, 3)), (6, (.iconst 0, 1)), (7, (.iaload, 1)), (8, (.iconst 1, 1)), (9, (.isub, 1)), (10, (.invokestatic 81, 3)), (13, (.ifCond .eq 23, 3))], [(16, (.aload_n 0, 1)), (17, (.getfield 53, 3)), (20, (.aload_n 1, 1)), (21, (.bipush 18, 2)), (23, (.iload_n 2, 1)), (24, (.iadd, 1)), (25, (.iaload, 1)), (26, (.iaload, 1)), (27, (.bipush (-4), 2)), (29, (.if_icmp .eq 7, 3))], [(32, (.iconst 1, 1)), (33, (.goto 4, 3)), (36, (.iconst 0, 1)), (37, (.ireturn, 1))]]
/-- Model.bore ([III)V -/
def jc151 : jCode := [[(0, (.aload_n 0, 1)), (1, (.getfield 20, 3)), (4, (.iload_n 3, 1)), (5, (.iaload, 1)), (6, (.iconst 2, 1)), (7, (.aload_n 1, 1)), (8, (.bipush 32, 2)), (10, (.iload_n 3, 1)), (11, (.iadd, 1)), (12, (.iaload, 1)), (13, (.iconst 3, 1)), (14, (.if_icmp .ge 12, 3))], [(17, (.aload_n 1, 1)), (18, (.bipush 32, 2)), (20, (.iload_n 3, 1)), (21, (.iadd, 1)), (22, (.iaload, 1)), (23, (.goto 4, 3)), (26, (.iconst 3, 1)), (27, (.imul, 1)), (28, (.iadd, 1)), (29, (.istore 4, 2)), (31, (.aload_n 0, 1))], [(32, (.getfield 17, 3)), (35, (.iload_n 3, 1)), (36, (.iaload, 1)), (37, (.aload_n 0, 1)), (38, (.getfield 32, 3)), (41, (.iload_n 2, 1)), (42, (.iaload, 1)), (43, (.if_icmp .ne 15, 3)), (46, (.aload_n 0, 1)), (47, (.getfield 20, 3))], [(50, (.iload_n 3, 1)), (51, (.iaload, 1)), (52, (.iconst 2, 1)), (53, (.idiv, 1)), (54, (.ineg, 1)), (55, (.goto 22, 3)), (58, (.aload_n 1, 1)), (59, (.bipush 11, 2)), (61, (.iload_n 2, 1)), (62, (.iadd, 1)), (63, (.iaload, 1))], [(64, (.iconst 2, 1)), (65, (.if_icmp .ne 10, 3)), (68, (.iconst 2, 1)), (69, (.iload 4, 2)), (71, (.imul, 1)), (72, (.goto 5, 3)), (75, (.iload 4, 2)), (77, (.istore 5, 2)), (79, (.aload_n 0, 1))], [(80, (.getfield 56, 3)), (83, (.iload_n 2, 1)), (84, (.aload_n 0, 1)), (85, (.getfield 56, 3)), (88, (.iload_n 2, 1)), (89, (.iaload, 1)), (90, (.iload 5, 2)), (92, (.iadd, 1)), (93, (.ifCond .ge 7, 3))], [(96, (.iconst 0, 1)), (97, (.goto 12, 3)), (100, (.aload_n 0, 1)), (101, (.getfield 56, 3)), (104, (.iload_n 2, 1)), (105, (.iaload, 1)), (106, (.iload 5, 2)), (108, (.iadd, 1)), (109, (.iastore, 1)), (110, (.return_, 1))]]
/-- Model.canLeave ([II)Z -/
def jc152 : jCode := [[(0, (.aload_n 1, 1)), (1, (.bipush 11, 2)), (3, (.iload_n 2, 1)), (4, (.iadd, 1)), (5, (.iaload, 1)), (6, (.ifCond .eq 13, 3)), (9, (.aload_n 1, 1)), (10, (.bipush 11, 2)), (12, (.iload_n 2, 1)), (13, (.iadd, 1)), (14, (.iaload, 1)), (15, (.iconst 2, 1))], [(16, (.if_icmp .ne 7, 3)), (19, (.iconst 1, 1)), (20, (.goto 4, 3)), (23, (.iconst 0, 1)), (24, (.ireturn, 1))]]
/-- Model.settle ([III)V -/
def jc153 : jCode := [[(0, (.aload_n 1, 1)), (1, (.bipush 18, 2)), (3, (.iload_n 2, 1)), (4, (.iadd, 1)), (5, (.iaload, 1)), (6, (.istore 4, 2)), (8, (.aload_n 0, 1)), (9, (.getfield 35, 3)), (12, (.iload 4, 2)), (14, (.iaload, 1)), (15, (.aload_n 0, 1))], [(16, (.aload_n 1, 1)), (17, (.iload_n 2, 1)), (18, (.iconst 1, 1)), (19, (.isub, 1)), (20, (.invokevirtual 156, 3)), (23, (.ifCond .eq 7, 3)), (26, (.iconst 3, 1)), (27, (.goto 4, 3)), (30, (.iconst 0, 1)), (31, (.isub, 1))], [(32, (.aload_n 0, 1)), (33, (.aload_n 1, 1)), (34, (.iload_n 2, 1)), (35, (.iconst 1, 1)), (36, (.iadd, 1)), (37, (.invokevirtual 156, 3)), (40, (.ifCond .eq 7, 3)), (43, (.iconst 3, 1)), (44, (.goto 4, 3)), (47, (.iconst 0, 1))], [(48, (.isub, 1)), (49, (.istore 5, 2)), (51, (.aload_n 0, 1)), (52, (.aload_n 1, 1)), (53, (.iload 4, 2)), (55, (.invokevirtual 160, 3)), (58, (.ifCond .eq 34, 3)), (61, (.aload_n 0, 1)), (62, (.getfield 56, 3))], [(65, (.iload 4, 2)), (67, (.iaload, 1)), (68, (.iload 5, 2)), (70, (.ifCond .ge 7, 3)), (73, (.iconst 0, 1)), (74, (.goto 5, 3)), (77, (.iload 5, 2)), (79, (.if_icmp .le 13, 3))], [(82, (.aload_n 0, 1)), (83, (.getfield 53, 3)), (86, (.iload 4, 2)), (88, (.iload_n 3, 1)), (89, (.iconst 1, 1)), (90, (.iadd, 1)), (91, (.iastore, 1)), (92, (.aload_n 0, 1)), (93, (.getfield 59, 3))], [(96, (.iload 4, 2)), (98, (.aload_n 1, 1)), (99, (.bipush 11, 2)), (101, (.iload 4, 2)), (103, (.iadd, 1)), (104, (.iaload, 1)), (105, (.iconst 1, 1)), (106, (.if_icmp .ne 24, 3)), (109, (.aload_n 0, 1)), (110, (.getfield 56, 3))], [(113, (.iload 4, 2)), (115, (.iaload, 1)), (116, (.aload_n 0, 1)), (117, (.getfield 35, 3)), (120, (.iload 4, 2)), (122, (.iaload, 1)), (123, (.if_icmp .le 7, 3)), (126, (.iconst 1, 1)), (127, (.goto 4, 3))], [(130, (.iconst 0, 1)), (131, (.bastore, 1)), (132, (.return_, 1))]]
/-- Model.go ([I)I -/
def jc154 : jCode := [[(0, (.iconst 0, 1)), (1, (.istore_n 2, 1)), (2, (.iload_n 2, 1)), (3, (.bipush 7, 2)), (5, (.if_icmp .ge 38, 3)), (8, (.aload_n 0, 1)), (9, (.getfield 53, 3)), (12, (.iload_n 2, 1)), (13, (.bipush (-4), 2)), (15, (.iastore, 1))], [(16, (.aload_n 0, 1)), (17, (.getfield 56, 3)), (20, (.iload_n 2, 1)), (21, (.iconst 0, 1)), (22, (.iastore, 1)), (23, (.aload_n 0, 1)), (24, (.getfield 59, 3)), (27, (.iload_n 2, 1)), (28, (.iconst 0, 1)), (29, (.bastore, 1)), (30, (.aload_n 0, 1)), (31, (.getfield 63, 3))], [(34, (.iload_n 2, 1)), (35, (.iconst 0, 1)), (36, (.iastore, 1)), (37, (.iinc 2 1, 3)), (40, (.goto (-38), 3)), (43, (.iconst 0, 1)), (44, (.istore_n 2, 1)), (45, (.iload_n 2, 1)), (46, (.aload_n 1, 1)), (47, (.bipush 7, 2))], [(49, (.iaload, 1)), (50, (.if_icmp .ge 182, 3)), (53, (.aload_n 1, 1)), (54, (.iconst 0, 1)), (55, (.iload_n 2, 1)), (56, (.iadd, 1)), (57, (.iaload, 1)), (58, (.istore_n 3, 1)), (59, (.iconst 0, 1)), (60, (.istore 4, 2)), (62, (.iload 4, 2))], [(64, (.aload_n 0, 1)), (65, (.getfield 26, 3)), (68, (.iconst 0, 1)), (69, (.iaload, 1)), (70, (.if_icmp .ge 48, 3)), (73, (.aload_n 0, 1)), (74, (.getfield 63, 3)), (77, (.iload 4, 2)), (79, (.dup2, 1))], [(80, (.iaload, 1)), (81, (.aload_n 0, 1)), (82, (.getfield 53, 3)), (85, (.iload 4, 2)), (87, (.iaload, 1)), (88, (.bipush (-4), 2)), (90, (.if_icmp .ne 19, 3)), (93, (.aload_n 0, 1)), (94, (.getfield 59, 3))], [(97, (.iload 4, 2)), (99, (.baload, 1)), (100, (.ifCond .ne 9, 3)), (103, (.iconst 1, 1)), (104, (.iload_n 2, 1)), (105, (.ishl, 1)), (106, (.goto 4, 3)), (109, (.iconst 0, 1)), (110, (.ior, 1)), (111, (.iastore, 1))], [(112, (.iinc 4 1, 3)), (115, (.goto (-53), 3)), (118, (.iconst 0, 1)), (119, (.istore 4, 2)), (121, (.iload 4, 2)), (123, (.aload_n 0, 1)), (124, (.getfield 26, 3)), (127, (.iconst 0, 1))], [(128, (.iaload, 1)), (129, (.if_icmp .ge 39, 3)), (132, (.iload_n 2, 1)), (133, (.ifCond .ne 35, 3)), (136, (.aload_n 0, 1)), (137, (.getfield 53, 3)), (140, (.iload 4, 2)), (142, (.aload_n 0, 1)), (143, (.getfield 163, 3))], [(146, (.iload 4, 2)), (148, (.ishr, 1)), (149, (.iconst 1, 1)), (150, (.iand, 1)), (151, (.iconst 1, 1)), (152, (.if_icmp .ne 7, 3)), (155, (.iconst 1, 1)), (156, (.goto 5, 3)), (159, (.bipush (-4), 2))], [(161, (.iastore, 1)), (162, (.iinc 4 1, 3)), (165, (.goto (-44), 3)), (168, (.iconst 0, 1)), (169, (.istore 4, 2)), (171, (.iload 4, 2)), (173, (.aload_n 0, 1)), (174, (.getfield 26, 3))], [(177, (.iconst 0, 1)), (178, (.iaload, 1)), (179, (.if_icmp .ge 47, 3)), (182, (.aload_n 0, 1)), (183, (.getfield 53, 3)), (186, (.aload_n 1, 1)), (187, (.bipush 18, 2)), (189, (.iload 4, 2)), (191, (.iadd, 1))], [(192, (.iaload, 1)), (193, (.iaload, 1)), (194, (.bipush (-4), 2)), (196, (.if_icmp .ne 24, 3)), (199, (.aload_n 0, 1)), (200, (.aload_n 1, 1)), (201, (.aload_n 1, 1)), (202, (.bipush 18, 2)), (204, (.iload 4, 2)), (206, (.iadd, 1)), (207, (.iaload, 1))], [(208, (.iload_n 3, 1)), (209, (.invokevirtual 166, 3)), (212, (.aload_n 0, 1)), (213, (.aload_n 1, 1)), (214, (.iload 4, 2)), (216, (.iload_n 2, 1)), (217, (.invokevirtual 170, 3)), (220, (.iinc 4 1, 3)), (223, (.goto (-52), 3))], [(226, (.iinc 2 1, 3)), (229, (.goto (-184), 3)), (232, (.iconst 0, 1)), (233, (.istore_n 2, 1)), (234, (.iconst 0, 1)), (235, (.istore_n 3, 1)), (236, (.iload_n 3, 1)), (237, (.aload_n 0, 1)), (238, (.getfield 26, 3))], [(241, (.iconst 0, 1)), (242, (.iaload, 1)), (243, (.if_icmp .ge 28, 3)), (246, (.iload_n 2, 1)), (247, (.aload_n 0, 1)), (248, (.getfield 53, 3)), (251, (.iload_n 3, 1)), (252, (.iaload, 1)), (253, (.bipush (-4), 2)), (255, (.if_icmp .ne 7, 3))], [(258, (.iconst 1, 1)), (259, (.goto 4, 3)), (262, (.iconst 0, 1)), (263, (.iadd, 1)), (264, (.istore_n 2, 1)), (265, (.iinc 3 1, 3)), (268, (.goto (-32), 3)), (271, (.iload_n 2, 1))], [(272, (.ireturn, 1))]]
/-- Model.doesPass ([I)Z -/
def jc155 : jCode := [[(0, (.aload_n 1, 1)), (1, (.bipush 7, 2)), (3, (.iaload, 1)), (4, (.ifCond .le 25, 3)), (7, (.iconst 3, 1)), (8, (.aload_n 0, 1)), (9, (.aload_n 1, 1)), (10, (.invokevirtual 173, 3)), (13, (.imul, 1)), (14, (.iconst 2, 1)), (15, (.aload_n 0, 1))], [(16, (.getfield 26, 3)), (19, (.iconst 0, 1)), (20, (.iaload, 1)), (21, (.imul, 1)), (22, (.if_icmp .lt 7, 3)), (25, (.iconst 1, 1)), (26, (.goto 4, 3)), (29, (.iconst 0, 1)), (30, (.ireturn, 1))]]
/-- Model.bind ([I)V -/
def jc156 : jCode := [[(0, (.iconst 0, 1)), (1, (.istore_n 2, 1)), (2, (.iload_n 2, 1)), (3, (.aload_n 1, 1)), (4, (.bipush 7, 2)), (6, (.iaload, 1)), (7, (.if_icmp .ge 148, 3)), (10, (.aload_n 1, 1)), (11, (.iconst 0, 1)), (12, (.iload_n 2, 1)), (13, (.iadd, 1)), (14, (.iaload, 1)), (15, (.istore_n 3, 1))], [(16, (.iconst 0, 1)), (17, (.istore 4, 2)), (19, (.iload 4, 2)), (21, (.aload_n 0, 1)), (22, (.getfield 26, 3)), (25, (.iconst 0, 1)), (26, (.iaload, 1)), (27, (.if_icmp .ge 122, 3)), (30, (.aload_n 0, 1)), (31, (.getfield 23, 3))], [(34, (.iload_n 3, 1)), (35, (.iaload, 1)), (36, (.bipush 8, 2)), (38, (.if_icmp .ge 111, 3)), (41, (.aload_n 0, 1)), (42, (.getfield 63, 3)), (45, (.iload 4, 2)), (47, (.iaload, 1))], [(48, (.iload_n 2, 1)), (49, (.ishr, 1)), (50, (.iconst 1, 1)), (51, (.iand, 1)), (52, (.iconst 1, 1)), (53, (.if_icmp .ne 28, 3)), (56, (.aload_n 0, 1)), (57, (.getfield 17, 3)), (60, (.iload_n 3, 1)), (61, (.iaload, 1)), (62, (.iconst 1, 1)), (63, (.if_icmp .ne 14, 3))], [(66, (.aload_n 0, 1)), (67, (.getfield 32, 3)), (70, (.iload 4, 2)), (72, (.iaload, 1)), (73, (.iconst 1, 1)), (74, (.if_icmp .ne 7, 3)), (77, (.iconst 1, 1)), (78, (.goto 4, 3))], [(81, (.iconst 0, 1)), (82, (.istore 5, 2)), (84, (.iload 5, 2)), (86, (.ifCond .eq 57, 3)), (89, (.aload_n 1, 1)), (90, (.bipush 25, 2)), (92, (.iload 4, 2)), (94, (.iadd, 1)), (95, (.aload_n 0, 1))], [(96, (.getfield 17, 3)), (99, (.iload_n 3, 1)), (100, (.iaload, 1)), (101, (.iconst 3, 1)), (102, (.if_icmp .ne 24, 3)), (105, (.aload_n 1, 1)), (106, (.bipush 25, 2)), (108, (.iload 4, 2)), (110, (.iadd, 1)), (111, (.iaload, 1))], [(112, (.iconst 1, 1)), (113, (.aload_n 0, 1)), (114, (.getfield 23, 3)), (117, (.iload_n 3, 1)), (118, (.iaload, 1)), (119, (.ishl, 1)), (120, (.iconst (-1), 1)), (121, (.ixor, 1)), (122, (.iand, 1)), (123, (.goto 19, 3)), (126, (.aload_n 1, 1)), (127, (.bipush 25, 2))], [(129, (.iload 4, 2)), (131, (.iadd, 1)), (132, (.iaload, 1)), (133, (.iconst 1, 1)), (134, (.aload_n 0, 1)), (135, (.getfield 23, 3)), (138, (.iload_n 3, 1)), (139, (.iaload, 1)), (140, (.ishl, 1)), (141, (.ior, 1)), (142, (.iastore, 1)), (143, (.iinc 4 1, 3))], [(146, (.goto (-127), 3)), (149, (.iinc 2 1, 3)), (152, (.goto (-150), 3)), (155, (.return_, 1))]]
/-- Model.canPlay ([I)Z -/
def jc157 : jCode := [[(0, (.aload_n 1, 1)), (1, (.bipush 7, 2)), (3, (.iaload, 1)), (4, (.ifCond .le 19, 3)), (7, (.aload_n 1, 1)), (8, (.bipush 8, 2)), (10, (.iaload, 1)), (11, (.aload_n 0, 1)), (12, (.aload_n 1, 1)), (13, (.invokevirtual 177, 3))], [(16, (.if_icmp .lt 7, 3)), (19, (.iconst 1, 1)), (20, (.goto 4, 3)), (23, (.iconst 0, 1)), (24, (.ireturn, 1))]]
/-- Model.playOn ([I)Z -/
def jc158 : jCode := [[(0, (.aload_n 0, 1)), (1, (.aload_n 1, 1)), (2, (.invokevirtual 180, 3)), (5, (.istore_n 2, 1)), (6, (.iload_n 2, 1)), (7, (.ifCond .eq 8, 3)), (10, (.aload_n 0, 1)), (11, (.aload_n 1, 1)), (12, (.invokevirtual 184, 3)), (15, (.aload_n 1, 1))], [(16, (.bipush 8, 2)), (18, (.iaload, 1)), (19, (.aload_n 0, 1)), (20, (.aload_n 1, 1)), (21, (.invokevirtual 177, 3)), (24, (.isub, 1)), (25, (.istore_n 3, 1)), (26, (.iconst 0, 1)), (27, (.istore 4, 2)), (29, (.iload 4, 2)), (31, (.aload_n 0, 1))], [(32, (.getfield 26, 3)), (35, (.iconst 0, 1)), (36, (.iaload, 1)), (37, (.if_icmp .ge 40, 3)), (40, (.iload_n 3, 1)), (41, (.aload_n 0, 1)), (42, (.getfield 53, 3)), (45, (.iload 4, 2)), (47, (.iaload, 1))], [(48, (.bipush (-4), 2)), (50, (.if_icmp .ne 18, 3)), (53, (.aload_n 1, 1)), (54, (.bipush 11, 2)), (56, (.iload 4, 2)), (58, (.iadd, 1)), (59, (.iaload, 1)), (60, (.iconst 3, 1)), (61, (.if_icmp .eq 7, 3))], [(64, (.iconst 1, 1)), (65, (.goto 4, 3)), (68, (.iconst 0, 1)), (69, (.iadd, 1)), (70, (.istore_n 3, 1)), (71, (.iinc 4 1, 3)), (74, (.goto (-45), 3)), (77, (.aload_n 1, 1)), (78, (.bipush 8, 2))], [(80, (.iload_n 3, 1)), (81, (.sipush 999, 3)), (84, (.if_icmp .le 9, 3)), (87, (.sipush 999, 3)), (90, (.goto 4, 3)), (93, (.iload_n 3, 1)), (94, (.iastore, 1)), (95, (.iconst 0, 1))], [(96, (.istore 4, 2)), (98, (.iload 4, 2)), (100, (.aload_n 1, 1)), (101, (.bipush 7, 2)), (103, (.iaload, 1)), (104, (.if_icmp .ge 24, 3)), (107, (.aload_n 1, 1)), (108, (.bipush 32, 2)), (110, (.aload_n 1, 1)), (111, (.iconst 0, 1))], [(112, (.iload 4, 2)), (114, (.iadd, 1)), (115, (.iaload, 1)), (116, (.iadd, 1)), (117, (.dup2, 1)), (118, (.iaload, 1)), (119, (.iconst 1, 1)), (120, (.iadd, 1)), (121, (.iastore, 1)), (122, (.iinc 4 1, 3)), (125, (.goto (-27), 3))], [(128, (.aload_n 1, 1)), (129, (.bipush 9, 2)), (131, (.dup2, 1)), (132, (.iaload, 1)), (133, (.iconst 1, 1)), (134, (.iadd, 1)), (135, (.iastore, 1)), (136, (.aload_n 1, 1)), (137, (.bipush 10, 2)), (139, (.dup2, 1)), (140, (.iaload, 1)), (141, (.iload_n 2, 1)), (142, (.ifCond .eq 7, 3))], [(145, (.iconst 1, 1)), (146, (.goto 4, 3)), (149, (.iconst 0, 1)), (150, (.iadd, 1)), (151, (.iastore, 1)), (152, (.iload_n 2, 1)), (153, (.ireturn, 1))]]
/-- Model.scene (II)I -/
def jc159 : jCode := [[(0, (.aload_n 0, 1)), (1, (.iload_n 1, 1)), (2, (.invokevirtual 188, 3)), (5, (.ifCond .ne 5, 3)), (8, (.iconst (-1), 1)), (9, (.ireturn, 1)), (10, (.iload_n 2, 1)), (11, (.tableswitch 89 0 4 #[33, 40, 47, 70, 79], 33))], [], [(44, (.aload_n 0, 1)), (45, (.getfield 17, 3))], [(48, (.iload_n 1, 1)), (49, (.iaload, 1)), (50, (.ireturn, 1)), (51, (.aload_n 0, 1)), (52, (.getfield 20, 3)), (55, (.iload_n 1, 1)), (56, (.iaload, 1)), (57, (.ireturn, 1)), (58, (.aload_n 0, 1)), (59, (.getfield 23, 3)), (62, (.iload_n 1, 1)), (63, (.iaload, 1))], [(64, (.bipush 8, 2)), (66, (.if_icmp .ne 8, 3)), (69, (.bipush (-4), 2)), (71, (.goto 9, 3)), (74, (.aload_n 0, 1)), (75, (.getfield 23, 3)), (78, (.iload_n 1, 1)), (79, (.iaload, 1))], [(80, (.ireturn, 1)), (81, (.aload_n 0, 1)), (82, (.getfield 41, 3)), (85, (.iload_n 1, 1)), (86, (.invokestatic 192, 3)), (89, (.ireturn, 1)), (90, (.aload_n 0, 1)), (91, (.getfield 41, 3)), (94, (.bipush 32, 2))], [(96, (.iload_n 1, 1)), (97, (.iadd, 1)), (98, (.iaload, 1)), (99, (.ireturn, 1)), (100, (.iconst (-1), 1)), (101, (.ireturn, 1))]]
/-- Model.seat (II)I -/
def jc160 : jCode := [[(0, (.aload_n 0, 1)), (1, (.iload_n 1, 1)), (2, (.invokevirtual 196, 3)), (5, (.ifCond .ne 5, 3)), (8, (.iconst (-1), 1)), (9, (.ireturn, 1)), (10, (.iload_n 2, 1)), (11, (.tableswitch 77 0 4 #[33, 43, 50, 57, 67], 33))], [], [(44, (.aload_n 0, 1)), (45, (.getfield 41, 3))], [(48, (.bipush 11, 2)), (50, (.iload_n 1, 1)), (51, (.iadd, 1)), (52, (.iaload, 1)), (53, (.ireturn, 1)), (54, (.aload_n 0, 1)), (55, (.getfield 32, 3)), (58, (.iload_n 1, 1)), (59, (.iaload, 1)), (60, (.ireturn, 1)), (61, (.aload_n 0, 1)), (62, (.getfield 35, 3))], [(65, (.iload_n 1, 1)), (66, (.iaload, 1)), (67, (.ireturn, 1)), (68, (.aload_n 0, 1)), (69, (.aload_n 0, 1)), (70, (.getfield 41, 3)), (73, (.iload_n 1, 1)), (74, (.invokevirtual 199, 3)), (77, (.ireturn, 1)), (78, (.aload_n 0, 1)), (79, (.getfield 41, 3))], [(82, (.bipush 25, 2)), (84, (.iload_n 1, 1)), (85, (.iadd, 1)), (86, (.iaload, 1)), (87, (.ireturn, 1)), (88, (.iconst (-1), 1)), (89, (.ireturn, 1))]]
/-- Model.tonight (II)I -/
def jc161 : jCode := [[(0, (.aload_n 0, 1)), (1, (.iload_n 1, 1)), (2, (.invokevirtual 196, 3)), (5, (.ifCond .eq 12, 3)), (8, (.iload_n 2, 1)), (9, (.iconst 0, 1)), (10, (.iconst 2, 1)), (11, (.invokestatic 81, 3)), (14, (.ifCond .ne 5, 3))], [(17, (.iconst (-1), 1)), (18, (.ireturn, 1)), (19, (.aload_n 0, 1)), (20, (.aload_n 0, 1)), (21, (.getfield 41, 3)), (24, (.invokevirtual 173, 3)), (27, (.pop, 1)), (28, (.iload_n 2, 1)), (29, (.ifCond .ne 12, 3))], [(32, (.aload_n 0, 1)), (33, (.getfield 53, 3)), (36, (.iload_n 1, 1)), (37, (.iaload, 1)), (38, (.goto 23, 3)), (41, (.iload_n 2, 1)), (42, (.iconst 1, 1)), (43, (.if_icmp .ne 12, 3)), (46, (.aload_n 0, 1)), (47, (.getfield 63, 3))], [(50, (.iload_n 1, 1)), (51, (.iaload, 1)), (52, (.goto 9, 3)), (55, (.aload_n 0, 1)), (56, (.getfield 56, 3)), (59, (.iload_n 1, 1)), (60, (.iaload, 1)), (61, (.ireturn, 1))]]
/-- Model.passes (I)I -/
def jc162 : jCode := [[(0, (.iload_n 1, 1)), (1, (.iconst 0, 1)), (2, (.iconst 1, 1)), (3, (.invokestatic 81, 3)), (6, (.ifCond .ne 5, 3)), (9, (.iconst (-1), 1)), (10, (.ireturn, 1)), (11, (.iload_n 1, 1)), (12, (.ifCond .ne 14, 3)), (15, (.aload_n 0, 1))], [(16, (.aload_n 0, 1)), (17, (.getfield 41, 3)), (20, (.invokevirtual 173, 3)), (23, (.goto 19, 3)), (26, (.aload_n 0, 1)), (27, (.aload_n 0, 1)), (28, (.getfield 41, 3)), (31, (.invokevirtual 180, 3))], [(34, (.ifCond .eq 7, 3)), (37, (.iconst 1, 1)), (38, (.goto 4, 3)), (41, (.iconst 0, 1)), (42, (.ireturn, 1))]]
/-- Model.know ()V -/
def jc163 : jCode := [[(0, (.aload_n 0, 1)), (1, (.getfield 143, 3)), (4, (.bipush 8, 2)), (6, (.if_icmp .ne 43, 3)), (9, (.iconst 0, 1)), (10, (.istore_n 1, 1)), (11, (.iload_n 1, 1)), (12, (.sipush 273, 3)), (15, (.if_icmp .ge 24, 3))], [(18, (.aload_n 0, 1)), (19, (.getfield 44, 3)), (22, (.iload_n 1, 1)), (23, (.aload_n 0, 1)), (24, (.getfield 44, 3)), (27, (.bipush 39, 2)), (29, (.iload_n 1, 1)), (30, (.iadd, 1)), (31, (.iaload, 1))], [(32, (.iastore, 1)), (33, (.iinc 1 1, 3)), (36, (.goto (-25), 3)), (39, (.aload_n 0, 1)), (40, (.dup, 1)), (41, (.getfield 143, 3)), (44, (.iconst 1, 1)), (45, (.isub, 1)), (46, (.putfield 143, 3))], [(49, (.iconst 0, 1)), (50, (.istore_n 1, 1)), (51, (.iload_n 1, 1)), (52, (.bipush 39, 2)), (54, (.if_icmp .ge 29, 3)), (57, (.aload_n 0, 1)), (58, (.getfield 44, 3)), (61, (.bipush 39, 2)), (63, (.aload_n 0, 1))], [(64, (.getfield 143, 3)), (67, (.imul, 1)), (68, (.iload_n 1, 1)), (69, (.iadd, 1)), (70, (.aload_n 0, 1)), (71, (.getfield 41, 3)), (74, (.iload_n 1, 1)), (75, (.iaload, 1)), (76, (.iastore, 1)), (77, (.iinc 1 1, 3))], [(80, (.goto (-29), 3)), (83, (.aload_n 0, 1)), (84, (.dup, 1)), (85, (.getfield 143, 3)), (88, (.iconst 1, 1)), (89, (.iadd, 1)), (90, (.putfield 143, 3)), (93, (.return_, 1))]]
/-- Model.putOn ([III)V -/
def jc164 : jCode := [[(0, (.aload_n 0, 1)), (1, (.bipush 7, 2)), (3, (.iaload, 1)), (4, (.istore_n 3, 1)), (5, (.iload_n 3, 1)), (6, (.iload_n 2, 1)), (7, (.if_icmp .le 21, 3)), (10, (.aload_n 0, 1)), (11, (.iconst 0, 1)), (12, (.iload_n 3, 1)), (13, (.iadd, 1)), (14, (.aload_n 0, 1)), (15, (.iconst 0, 1))], [(16, (.iload_n 3, 1)), (17, (.iadd, 1)), (18, (.iconst 1, 1)), (19, (.isub, 1)), (20, (.iaload, 1)), (21, (.iastore, 1)), (22, (.iinc 3 (-1), 3)), (25, (.goto (-20), 3)), (28, (.aload_n 0, 1)), (29, (.iconst 0, 1)), (30, (.iload_n 2, 1)), (31, (.iadd, 1))], [(32, (.iload_n 1, 1)), (33, (.iastore, 1)), (34, (.aload_n 0, 1)), (35, (.bipush 7, 2)), (37, (.dup2, 1)), (38, (.iaload, 1)), (39, (.iconst 1, 1)), (40, (.iadd, 1)), (41, (.iastore, 1)), (42, (.return_, 1))]]
/-- Model.takeOff ([II)V -/
def jc165 : jCode := [[(0, (.iload_n 1, 1)), (1, (.istore_n 2, 1)), (2, (.iload_n 2, 1)), (3, (.iconst 1, 1)), (4, (.iadd, 1)), (5, (.aload_n 0, 1)), (6, (.bipush 7, 2)), (8, (.iaload, 1)), (9, (.if_icmp .ge 21, 3)), (12, (.aload_n 0, 1)), (13, (.iconst 0, 1)), (14, (.iload_n 2, 1)), (15, (.iadd, 1))], [(16, (.aload_n 0, 1)), (17, (.iconst 0, 1)), (18, (.iload_n 2, 1)), (19, (.iadd, 1)), (20, (.iconst 1, 1)), (21, (.iadd, 1)), (22, (.iaload, 1)), (23, (.iastore, 1)), (24, (.iinc 2 1, 3)), (27, (.goto (-25), 3)), (30, (.aload_n 0, 1)), (31, (.bipush 7, 2))], [(33, (.dup2, 1)), (34, (.iaload, 1)), (35, (.iconst 1, 1)), (36, (.isub, 1)), (37, (.iastore, 1)), (38, (.return_, 1))]]
/-- Model.change ([III)V -/
def jc166 : jCode := [[(0, (.aload_n 0, 1)), (1, (.aload_n 1, 1)), (2, (.iload_n 2, 1)), (3, (.invokevirtual 199, 3)), (6, (.istore 4, 2)), (8, (.aload_n 0, 1)), (9, (.aload_n 1, 1)), (10, (.iload_n 3, 1)), (11, (.invokevirtual 199, 3)), (14, (.istore 5, 2))], [(16, (.aload_n 1, 1)), (17, (.bipush 18, 2)), (19, (.iload 4, 2)), (21, (.iadd, 1)), (22, (.iload_n 3, 1)), (23, (.iastore, 1)), (24, (.aload_n 1, 1)), (25, (.bipush 18, 2)), (27, (.iload 5, 2)), (29, (.iadd, 1)), (30, (.iload_n 2, 1)), (31, (.iastore, 1))], [(32, (.return_, 1))]]
/-- Model.canHire ([II)Z -/
def jc167 : jCode := [[(0, (.aload_n 0, 1)), (1, (.bipush 11, 2)), (3, (.iload_n 1, 1)), (4, (.iadd, 1)), (5, (.iaload, 1)), (6, (.iconst 3, 1)), (7, (.if_icmp .eq 15, 3)), (10, (.aload_n 0, 1)), (11, (.bipush 8, 2)), (13, (.iaload, 1)), (14, (.iconst 5, 1)), (15, (.if_icmp .lt 7, 3))], [(18, (.iconst 1, 1)), (19, (.goto 4, 3)), (22, (.iconst 0, 1)), (23, (.ireturn, 1))]]
/-- Model.hireFor ([II)V -/
def jc168 : jCode := [[(0, (.aload_n 0, 1)), (1, (.bipush 11, 2)), (3, (.iload_n 1, 1)), (4, (.iadd, 1)), (5, (.iconst 3, 1)), (6, (.iastore, 1)), (7, (.aload_n 0, 1)), (8, (.bipush 8, 2)), (10, (.dup2, 1)), (11, (.iaload, 1)), (12, (.iconst 5, 1)), (13, (.isub, 1)), (14, (.iastore, 1)), (15, (.return_, 1))]]
/-- Model.add (I)I -/
def jc169 : jCode := [[(0, (.aload_n 0, 1)), (1, (.iload_n 1, 1)), (2, (.invokevirtual 188, 3)), (5, (.ifCond .ne 5, 3)), (8, (.iconst (-1), 1)), (9, (.ireturn, 1)), (10, (.aload_n 0, 1)), (11, (.getfield 41, 3)), (14, (.iload_n 1, 1)), (15, (.invokestatic 192, 3))], [(18, (.bipush (-4), 2)), (20, (.if_icmp .eq 6, 3)), (23, (.bipush (-2), 2)), (25, (.ireturn, 1)), (26, (.aload_n 0, 1)), (27, (.invokevirtual 202, 3)), (30, (.aload_n 0, 1)), (31, (.getfield 41, 3))], [(34, (.iload_n 1, 1)), (35, (.aload_n 0, 1)), (36, (.getfield 41, 3)), (39, (.bipush 7, 2)), (41, (.iaload, 1)), (42, (.invokestatic 205, 3)), (45, (.aload_n 0, 1)), (46, (.getfield 41, 3))], [(49, (.bipush 7, 2)), (51, (.iaload, 1)), (52, (.iconst 1, 1)), (53, (.isub, 1)), (54, (.ireturn, 1))]]
/-- Model.cut (I)I -/
def jc170 : jCode := [[(0, (.aload_n 0, 1)), (1, (.iload_n 1, 1)), (2, (.invokevirtual 188, 3)), (5, (.ifCond .ne 5, 3)), (8, (.iconst (-1), 1)), (9, (.ireturn, 1)), (10, (.aload_n 0, 1)), (11, (.getfield 41, 3)), (14, (.iload_n 1, 1)), (15, (.invokestatic 192, 3))], [(18, (.istore_n 2, 1)), (19, (.iload_n 2, 1)), (20, (.bipush (-4), 2)), (22, (.if_icmp .ne 6, 3)), (25, (.bipush (-2), 2)), (27, (.ireturn, 1)), (28, (.aload_n 0, 1)), (29, (.invokevirtual 202, 3))], [(32, (.aload_n 0, 1)), (33, (.getfield 41, 3)), (36, (.iload_n 2, 1)), (37, (.invokestatic 208, 3)), (40, (.aload_n 0, 1)), (41, (.getfield 41, 3)), (44, (.bipush 7, 2)), (46, (.iaload, 1)), (47, (.ireturn, 1))]]
/-- Model.play ()I -/
def jc171 : jCode := [[(0, (.aload_n 0, 1)), (1, (.aload_n 0, 1)), (2, (.getfield 41, 3)), (5, (.invokevirtual 212, 3)), (8, (.ifCond .ne 6, 3)), (11, (.bipush (-2), 2)), (13, (.ireturn, 1)), (14, (.aload_n 0, 1)), (15, (.invokevirtual 202, 3))], [(18, (.aload_n 0, 1)), (19, (.aload_n 0, 1)), (20, (.getfield 41, 3)), (23, (.invokevirtual 215, 3)), (26, (.ifCond .eq 7, 3)), (29, (.iconst 1, 1)), (30, (.goto 4, 3))], [(33, (.iconst 0, 1)), (34, (.ireturn, 1))]]
/-- Model.swap (II)I -/
def jc172 : jCode := [[(0, (.aload_n 0, 1)), (1, (.iload_n 1, 1)), (2, (.invokevirtual 196, 3)), (5, (.ifCond .eq 16, 3)), (8, (.aload_n 0, 1)), (9, (.iload_n 2, 1)), (10, (.invokevirtual 196, 3)), (13, (.ifCond .eq 8, 3))], [(16, (.iload_n 1, 1)), (17, (.iload_n 2, 1)), (18, (.if_icmp .ne 5, 3)), (21, (.iconst (-1), 1)), (22, (.ireturn, 1)), (23, (.aload_n 0, 1)), (24, (.invokevirtual 202, 3)), (27, (.aload_n 0, 1)), (28, (.aload_n 0, 1)), (29, (.getfield 41, 3))], [(32, (.iload_n 1, 1)), (33, (.iload_n 2, 1)), (34, (.invokevirtual 218, 3)), (37, (.aload_n 0, 1)), (38, (.aload_n 0, 1)), (39, (.getfield 41, 3)), (42, (.iload_n 1, 1)), (43, (.invokevirtual 199, 3)), (46, (.ireturn, 1))]]
/-- Model.hire (I)I -/
def jc173 : jCode := [[(0, (.aload_n 0, 1)), (1, (.iload_n 1, 1)), (2, (.invokevirtual 196, 3)), (5, (.ifCond .ne 5, 3)), (8, (.iconst (-1), 1)), (9, (.ireturn, 1)), (10, (.aload_n 0, 1)), (11, (.getfield 41, 3)), (14, (.iload_n 1, 1)), (15, (.invokestatic 221, 3))], [(18, (.ifCond .ne 6, 3)), (21, (.bipush (-2), 2)), (23, (.ireturn, 1)), (24, (.aload_n 0, 1)), (25, (.invokevirtual 202, 3)), (28, (.aload_n 0, 1)), (29, (.getfield 41, 3))], [(32, (.iload_n 1, 1)), (33, (.invokestatic 224, 3)), (36, (.aload_n 0, 1)), (37, (.getfield 41, 3)), (40, (.bipush 8, 2)), (42, (.iaload, 1)), (43, (.ireturn, 1))]]
/-- Model.undo ()I -/
def jc174 : jCode := [[(0, (.aload_n 0, 1)), (1, (.getfield 143, 3)), (4, (.ifCond .ne 6, 3)), (7, (.bipush (-2), 2)), (9, (.ireturn, 1)), (10, (.aload_n 0, 1)), (11, (.dup, 1)), (12, (.getfield 143, 3)), (15, (.iconst 1, 1))], [(16, (.isub, 1)), (17, (.putfield 143, 3)), (20, (.iconst 0, 1)), (21, (.istore_n 1, 1)), (22, (.iload_n 1, 1)), (23, (.bipush 39, 2)), (25, (.if_icmp .ge 29, 3)), (28, (.aload_n 0, 1)), (29, (.getfield 41, 3))], [(32, (.iload_n 1, 1)), (33, (.aload_n 0, 1)), (34, (.getfield 44, 3)), (37, (.bipush 39, 2)), (39, (.aload_n 0, 1)), (40, (.getfield 143, 3)), (43, (.imul, 1)), (44, (.iload_n 1, 1)), (45, (.iadd, 1)), (46, (.iaload, 1)), (47, (.iastore, 1))], [(48, (.iinc 1 1, 3)), (51, (.goto (-29), 3)), (54, (.aload_n 0, 1)), (55, (.getfield 143, 3)), (58, (.ireturn, 1))]]
/-- Model.clausesTried ()I -/
def jc175 : jCode := [[(0, (.iconst 0, 1)), (1, (.istore_n 1, 1)), (2, (.iconst 0, 1)), (3, (.istore_n 2, 1)), (4, (.iload_n 2, 1)), (5, (.aload_n 0, 1)), (6, (.getfield 50, 3)), (9, (.bipush 7, 2)), (11, (.iaload, 1)), (12, (.if_icmp .ge 54, 3)), (15, (.aload_n 0, 1))], [(16, (.getfield 50, 3)), (19, (.iconst 0, 1)), (20, (.iload_n 2, 1)), (21, (.iadd, 1)), (22, (.iaload, 1)), (23, (.istore_n 3, 1)), (24, (.iload_n 1, 1)), (25, (.aload_n 0, 1)), (26, (.getfield 17, 3)), (29, (.iload_n 3, 1)), (30, (.iaload, 1)), (31, (.iconst 3, 1))], [(32, (.if_icmp .eq 25, 3)), (35, (.aload_n 0, 1)), (36, (.getfield 23, 3)), (39, (.iload_n 3, 1)), (40, (.iaload, 1)), (41, (.bipush 8, 2)), (43, (.if_icmp .ge 14, 3)), (46, (.iconst 1, 1)), (47, (.aload_n 0, 1))], [(48, (.getfield 23, 3)), (51, (.iload_n 3, 1)), (52, (.iaload, 1)), (53, (.ishl, 1)), (54, (.goto 4, 3)), (57, (.iconst 0, 1)), (58, (.ior, 1)), (59, (.istore_n 1, 1)), (60, (.iinc 2 1, 3)), (63, (.goto (-59), 3))], [(66, (.iload_n 1, 1)), (67, (.ireturn, 1))]]
/-- Model.minutesTried ()I -/
def jc176 : jCode := [[(0, (.iconst 0, 1)), (1, (.istore_n 1, 1)), (2, (.iconst 0, 1)), (3, (.istore_n 2, 1)), (4, (.iload_n 2, 1)), (5, (.aload_n 0, 1)), (6, (.getfield 50, 3)), (9, (.bipush 7, 2)), (11, (.iaload, 1)), (12, (.if_icmp .ge 25, 3)), (15, (.iload_n 1, 1))], [(16, (.aload_n 0, 1)), (17, (.getfield 20, 3)), (20, (.aload_n 0, 1)), (21, (.getfield 50, 3)), (24, (.iconst 0, 1)), (25, (.iload_n 2, 1)), (26, (.iadd, 1)), (27, (.iaload, 1)), (28, (.iaload, 1)), (29, (.iadd, 1)), (30, (.istore_n 1, 1)), (31, (.iinc 2 1, 3))], [(34, (.goto (-30), 3)), (37, (.iload_n 1, 1)), (38, (.ireturn, 1))]]
/-- Model.nextBill ()Z -/
def jc177 : jCode := [[(0, (.iconst 0, 1)), (1, (.istore_n 1, 1)), (2, (.iload_n 1, 1)), (3, (.aload_n 0, 1)), (4, (.getfield 13, 3)), (7, (.iconst 0, 1)), (8, (.iaload, 1)), (9, (.if_icmp .ge 22, 3)), (12, (.aload_n 0, 1)), (13, (.getfield 50, 3))], [(16, (.iload_n 1, 1)), (17, (.invokestatic 192, 3)), (20, (.bipush (-4), 2)), (22, (.if_icmp .eq 9, 3)), (25, (.iinc 1 1, 3)), (28, (.goto (-26), 3)), (31, (.iload_n 1, 1))], [(32, (.aload_n 0, 1)), (33, (.getfield 13, 3)), (36, (.iconst 0, 1)), (37, (.iaload, 1)), (38, (.if_icmp .ge 20, 3)), (41, (.aload_n 0, 1)), (42, (.getfield 50, 3)), (45, (.iload_n 1, 1)), (46, (.aload_n 0, 1)), (47, (.getfield 50, 3))], [(50, (.bipush 7, 2)), (52, (.iaload, 1)), (53, (.invokestatic 205, 3)), (56, (.iconst 1, 1)), (57, (.ireturn, 1)), (58, (.aload_n 0, 1)), (59, (.getfield 50, 3)), (62, (.bipush 7, 2))], [(64, (.iaload, 1)), (65, (.ifCond .ne 5, 3)), (68, (.iconst 0, 1)), (69, (.ireturn, 1)), (70, (.aload_n 0, 1)), (71, (.getfield 50, 3)), (74, (.bipush 7, 2)), (76, (.dup2, 1)), (77, (.iaload, 1)), (78, (.iconst 1, 1)), (79, (.isub, 1))], [(80, (.iastore, 1)), (81, (.aload_n 0, 1)), (82, (.getfield 50, 3)), (85, (.iconst 0, 1)), (86, (.aload_n 0, 1)), (87, (.getfield 50, 3)), (90, (.bipush 7, 2)), (92, (.iaload, 1)), (93, (.iadd, 1)), (94, (.iaload, 1)), (95, (.iconst 1, 1))], [(96, (.iadd, 1)), (97, (.istore_n 1, 1)), (98, (.goto (-96), 3))]]
/-- Model.soonest (II)I -/
def jc178 : jCode := [[(0, (.iload_n 1, 1)), (1, (.iconst 0, 1)), (2, (.sipush 255, 3)), (5, (.invokestatic 81, 3)), (8, (.ifCond .eq 13, 3)), (11, (.iload_n 2, 1)), (12, (.iconst 0, 1)), (13, (.bipush 7, 2)), (15, (.invokestatic 81, 3))], [(18, (.ifCond .ne 5, 3)), (21, (.iconst (-1), 1)), (22, (.ireturn, 1)), (23, (.aload_n 0, 1)), (24, (.invokevirtual 227, 3)), (27, (.aload_n 0, 1)), (28, (.getfield 50, 3)), (31, (.bipush 7, 2))], [(33, (.iconst 0, 1)), (34, (.iastore, 1)), (35, (.bipush (-4), 2)), (37, (.istore_n 3, 1)), (38, (.iconst 0, 1)), (39, (.istore 4, 2)), (41, (.aload_n 0, 1)), (42, (.invokevirtual 230, 3)), (45, (.ifCond .eq 90, 3))], [(48, (.aload_n 0, 1)), (49, (.invokevirtual 233, 3)), (52, (.istore 5, 2)), (54, (.iload_n 3, 1)), (55, (.bipush (-4), 2)), (57, (.if_icmp .eq 9, 3)), (60, (.iload 5, 2)), (62, (.iload_n 3, 1)), (63, (.if_icmp .ge 69, 3))], [(66, (.iload_n 1, 1)), (67, (.aload_n 0, 1)), (68, (.invokevirtual 236, 3)), (71, (.iconst (-1), 1)), (72, (.ixor, 1)), (73, (.iand, 1)), (74, (.ifCond .ne 58, 3)), (77, (.aload_n 0, 1)), (78, (.aload_n 0, 1)), (79, (.getfield 50, 3))], [(82, (.invokevirtual 180, 3)), (85, (.ifCond .eq 47, 3)), (88, (.iload 5, 2)), (90, (.istore_n 3, 1)), (91, (.aload_n 0, 1)), (92, (.getfield 50, 3)), (95, (.bipush 7, 2))], [(97, (.iaload, 1)), (98, (.istore 4, 2)), (100, (.iconst 0, 1)), (101, (.istore 6, 2)), (103, (.iload 6, 2)), (105, (.iload 4, 2)), (107, (.if_icmp .ge 25, 3)), (110, (.aload_n 0, 1)), (111, (.getfield 66, 3))], [(114, (.iload 6, 2)), (116, (.aload_n 0, 1)), (117, (.getfield 50, 3)), (120, (.iconst 0, 1)), (121, (.iload 6, 2)), (123, (.iadd, 1)), (124, (.iaload, 1)), (125, (.iastore, 1)), (126, (.iinc 6 1, 3))], [(129, (.goto (-26), 3)), (132, (.goto (-91), 3)), (135, (.iload_n 2, 1)), (136, (.ifCond .eq 9, 3)), (139, (.iload_n 3, 1)), (140, (.bipush (-4), 2)), (142, (.if_icmp .ne 7, 3))], [(145, (.iload_n 3, 1)), (146, (.goto 22, 3)), (149, (.iload_n 2, 1)), (150, (.iload 4, 2)), (152, (.if_icmp .gt 14, 3)), (155, (.aload_n 0, 1)), (156, (.getfield 66, 3)), (159, (.iload_n 2, 1))], [(160, (.iconst 1, 1)), (161, (.isub, 1)), (162, (.iaload, 1)), (163, (.goto 5, 3)), (166, (.bipush (-4), 2)), (168, (.ireturn, 1))]]
/-- Model.nextRow ()Z -/
def jc179 : jCode := [[(0, (.aload_n 0, 1)), (1, (.getfield 26, 3)), (4, (.iconst 0, 1)), (5, (.iaload, 1)), (6, (.iconst 2, 1)), (7, (.isub, 1)), (8, (.istore_n 1, 1)), (9, (.iload_n 1, 1)), (10, (.ifCond .lt 32, 3)), (13, (.aload_n 0, 1)), (14, (.getfield 50, 3))], [(17, (.bipush 18, 2)), (19, (.iload_n 1, 1)), (20, (.iadd, 1)), (21, (.iaload, 1)), (22, (.aload_n 0, 1)), (23, (.getfield 50, 3)), (26, (.bipush 18, 2)), (28, (.iload_n 1, 1)), (29, (.iadd, 1)), (30, (.iconst 1, 1)), (31, (.iadd, 1))], [(32, (.iaload, 1)), (33, (.if_icmp .le 9, 3)), (36, (.iinc 1 (-1), 3)), (39, (.goto (-30), 3)), (42, (.iload_n 1, 1)), (43, (.ifCond .ge 5, 3)), (46, (.iconst 0, 1)), (47, (.ireturn, 1))], [(48, (.aload_n 0, 1)), (49, (.getfield 26, 3)), (52, (.iconst 0, 1)), (53, (.iaload, 1)), (54, (.iconst 1, 1)), (55, (.isub, 1)), (56, (.istore_n 2, 1)), (57, (.aload_n 0, 1)), (58, (.getfield 50, 3)), (61, (.bipush 18, 2)), (63, (.iload_n 2, 1))], [(64, (.iadd, 1)), (65, (.iaload, 1)), (66, (.aload_n 0, 1)), (67, (.getfield 50, 3)), (70, (.bipush 18, 2)), (72, (.iload_n 1, 1)), (73, (.iadd, 1)), (74, (.iaload, 1)), (75, (.if_icmp .ge 9, 3)), (78, (.iinc 2 (-1), 3))], [(81, (.goto (-24), 3)), (84, (.aload_n 0, 1)), (85, (.getfield 50, 3)), (88, (.bipush 18, 2)), (90, (.iload_n 1, 1)), (91, (.iadd, 1)), (92, (.iaload, 1)), (93, (.istore_n 3, 1)), (94, (.aload_n 0, 1)), (95, (.getfield 50, 3))], [(98, (.bipush 18, 2)), (100, (.iload_n 1, 1)), (101, (.iadd, 1)), (102, (.aload_n 0, 1)), (103, (.getfield 50, 3)), (106, (.bipush 18, 2)), (108, (.iload_n 2, 1)), (109, (.iadd, 1)), (110, (.iaload, 1)), (111, (.iastore, 1))], [(112, (.aload_n 0, 1)), (113, (.getfield 50, 3)), (116, (.bipush 18, 2)), (118, (.iload_n 2, 1)), (119, (.iadd, 1)), (120, (.iload_n 3, 1)), (121, (.iastore, 1)), (122, (.iload_n 1, 1)), (123, (.iconst 1, 1)), (124, (.iadd, 1)), (125, (.istore 4, 2)), (127, (.aload_n 0, 1))], [(128, (.getfield 26, 3)), (131, (.iconst 0, 1)), (132, (.iaload, 1)), (133, (.iconst 1, 1)), (134, (.isub, 1)), (135, (.istore 5, 2)), (137, (.iload 4, 2)), (139, (.iload 5, 2)), (141, (.if_icmp .ge 54, 3))], [(144, (.aload_n 0, 1)), (145, (.getfield 50, 3)), (148, (.bipush 18, 2)), (150, (.iload 4, 2)), (152, (.iadd, 1)), (153, (.iaload, 1)), (154, (.istore_n 3, 1)), (155, (.aload_n 0, 1)), (156, (.getfield 50, 3)), (159, (.bipush 18, 2))], [(161, (.iload 4, 2)), (163, (.iadd, 1)), (164, (.aload_n 0, 1)), (165, (.getfield 50, 3)), (168, (.bipush 18, 2)), (170, (.iload 5, 2)), (172, (.iadd, 1)), (173, (.iaload, 1)), (174, (.iastore, 1)), (175, (.aload_n 0, 1))], [(176, (.getfield 50, 3)), (179, (.bipush 18, 2)), (181, (.iload 5, 2)), (183, (.iadd, 1)), (184, (.iload_n 3, 1)), (185, (.iastore, 1)), (186, (.iinc 4 1, 3)), (189, (.iinc 5 (-1), 3))], [(192, (.goto (-55), 3)), (195, (.iconst 1, 1)), (196, (.ireturn, 1))]]
/-- Model.seating (I)I -/
def jc180 : jCode := [[(0, (.iload_n 1, 1)), (1, (.iconst (-1), 1)), (2, (.aload_n 0, 1)), (3, (.getfield 26, 3)), (6, (.iconst 0, 1)), (7, (.iaload, 1)), (8, (.iconst 1, 1)), (9, (.isub, 1)), (10, (.invokestatic 81, 3)), (13, (.ifCond .ne 5, 3))], [(16, (.iconst (-1), 1)), (17, (.ireturn, 1)), (18, (.aload_n 0, 1)), (19, (.invokevirtual 227, 3)), (22, (.iconst 0, 1)), (23, (.istore_n 2, 1)), (24, (.iload_n 2, 1)), (25, (.bipush 7, 2)), (27, (.if_icmp .ge 19, 3)), (30, (.aload_n 0, 1)), (31, (.getfield 50, 3))], [(34, (.bipush 18, 2)), (36, (.iload_n 2, 1)), (37, (.iadd, 1)), (38, (.iload_n 2, 1)), (39, (.iastore, 1)), (40, (.iinc 2 1, 3)), (43, (.goto (-19), 3)), (46, (.iconst (-1), 1)), (47, (.istore_n 2, 1))], [(48, (.iconst 1, 1)), (49, (.istore_n 3, 1)), (50, (.iload_n 3, 1)), (51, (.ifCond .eq 67, 3)), (54, (.aload_n 0, 1)), (55, (.aload_n 0, 1)), (56, (.getfield 50, 3)), (59, (.invokevirtual 173, 3)), (62, (.istore 4, 2))], [(64, (.iload 4, 2)), (66, (.iload_n 2, 1)), (67, (.if_icmp .le 43, 3)), (70, (.iload 4, 2)), (72, (.istore_n 2, 1)), (73, (.iconst 0, 1)), (74, (.istore 5, 2)), (76, (.iload 5, 2)), (78, (.aload_n 0, 1)), (79, (.getfield 26, 3))], [(82, (.iconst 0, 1)), (83, (.iaload, 1)), (84, (.if_icmp .ge 26, 3)), (87, (.aload_n 0, 1)), (88, (.getfield 66, 3)), (91, (.iload 5, 2)), (93, (.aload_n 0, 1)), (94, (.getfield 50, 3))], [(97, (.bipush 18, 2)), (99, (.iload 5, 2)), (101, (.iadd, 1)), (102, (.iaload, 1)), (103, (.iastore, 1)), (104, (.iinc 5 1, 3)), (107, (.goto (-31), 3)), (110, (.aload_n 0, 1)), (111, (.invokevirtual 239, 3))], [(114, (.istore_n 3, 1)), (115, (.goto (-65), 3)), (118, (.iload_n 1, 1)), (119, (.iconst (-1), 1)), (120, (.if_icmp .ne 7, 3)), (123, (.iload_n 2, 1)), (124, (.goto 9, 3)), (127, (.aload_n 0, 1))], [(128, (.getfield 66, 3)), (131, (.iload_n 1, 1)), (132, (.iaload, 1)), (133, (.ireturn, 1))]]
/-- Model.claques (I)I -/
def jc181 : jCode := [[(0, (.iload_n 1, 1)), (1, (.iconst 0, 1)), (2, (.iconst 1, 1)), (3, (.invokestatic 81, 3)), (6, (.ifCond .ne 5, 3)), (9, (.iconst (-1), 1)), (10, (.ireturn, 1)), (11, (.bipush (-4), 2)), (13, (.istore_n 2, 1)), (14, (.iconst 0, 1)), (15, (.istore_n 3, 1))], [(16, (.iload_n 3, 1)), (17, (.iconst 1, 1)), (18, (.aload_n 0, 1)), (19, (.getfield 26, 3)), (22, (.iconst 0, 1)), (23, (.iaload, 1)), (24, (.ishl, 1)), (25, (.if_icmp .ge 101, 3)), (28, (.iload_n 2, 1)), (29, (.bipush (-4), 2)), (31, (.if_icmp .eq 14, 3))], [(34, (.iload_n 3, 1)), (35, (.invokestatic 152, 3)), (38, (.iload_n 2, 1)), (39, (.invokestatic 152, 3)), (42, (.if_icmp .ge 78, 3)), (45, (.aload_n 0, 1)), (46, (.invokevirtual 227, 3))], [(49, (.iconst 0, 1)), (50, (.istore 4, 2)), (52, (.iload 4, 2)), (54, (.aload_n 0, 1)), (55, (.getfield 26, 3)), (58, (.iconst 0, 1)), (59, (.iaload, 1)), (60, (.if_icmp .ge 43, 3)), (63, (.aload_n 0, 1))], [(64, (.getfield 50, 3)), (67, (.bipush 11, 2)), (69, (.iload 4, 2)), (71, (.iadd, 1)), (72, (.iload_n 3, 1)), (73, (.iload 4, 2)), (75, (.ishr, 1)), (76, (.iconst 1, 1)), (77, (.iand, 1)), (78, (.iconst 1, 1)), (79, (.if_icmp .ne 7, 3))], [(82, (.iconst 3, 1)), (83, (.goto 13, 3)), (86, (.aload_n 0, 1)), (87, (.getfield 41, 3)), (90, (.bipush 11, 2)), (92, (.iload 4, 2)), (94, (.iadd, 1)), (95, (.iaload, 1))], [(96, (.iastore, 1)), (97, (.iinc 4 1, 3)), (100, (.goto (-48), 3)), (103, (.aload_n 0, 1)), (104, (.aload_n 0, 1)), (105, (.getfield 50, 3)), (108, (.invokevirtual 180, 3)), (111, (.ifCond .eq 7, 3))], [(114, (.iload_n 3, 1)), (115, (.goto 4, 3)), (118, (.iload_n 2, 1)), (119, (.istore_n 2, 1)), (120, (.iinc 3 1, 3)), (123, (.goto (-107), 3)), (126, (.iload_n 2, 1)), (127, (.bipush (-4), 2))], [(129, (.if_icmp .eq 8, 3)), (132, (.iload_n 1, 1)), (133, (.iconst 1, 1)), (134, (.if_icmp .ne 7, 3)), (137, (.iload_n 2, 1)), (138, (.goto 7, 3)), (141, (.iload_n 2, 1)), (142, (.invokestatic 152, 3))], [(145, (.ireturn, 1))]]
/-- Model.falls ()I -/
def jc182 : jCode := [[(0, (.aload_n 0, 1)), (1, (.aload_n 0, 1)), (2, (.getfield 41, 3)), (5, (.invokevirtual 180, 3)), (8, (.ifCond .ne 6, 3)), (11, (.bipush (-4), 2)), (13, (.ireturn, 1)), (14, (.iconst 0, 1)), (15, (.istore_n 1, 1))], [(16, (.iload_n 1, 1)), (17, (.aload_n 0, 1)), (18, (.getfield 13, 3)), (21, (.iconst 0, 1)), (22, (.iaload, 1)), (23, (.if_icmp .ge 49, 3)), (26, (.aload_n 0, 1)), (27, (.getfield 41, 3)), (30, (.iload_n 1, 1)), (31, (.invokestatic 192, 3))], [(34, (.istore_n 2, 1)), (35, (.iload_n 2, 1)), (36, (.bipush (-4), 2)), (38, (.if_icmp .eq 28, 3)), (41, (.aload_n 0, 1)), (42, (.invokevirtual 227, 3)), (45, (.aload_n 0, 1)), (46, (.getfield 50, 3))], [(49, (.iload_n 2, 1)), (50, (.invokestatic 208, 3)), (53, (.aload_n 0, 1)), (54, (.aload_n 0, 1)), (55, (.getfield 50, 3)), (58, (.invokevirtual 180, 3)), (61, (.ifCond .ne 5, 3))], [(64, (.iload_n 1, 1)), (65, (.ireturn, 1)), (66, (.iinc 1 1, 3)), (69, (.goto (-53), 3)), (72, (.bipush (-4), 2)), (74, (.ireturn, 1))]]
/-- Model.run ()I -/
def jc183 : jCode := [[(0, (.aload_n 0, 1)), (1, (.invokevirtual 227, 3)), (4, (.iconst 0, 1)), (5, (.istore_n 1, 1)), (6, (.iload_n 1, 1)), (7, (.bipush 30, 2)), (9, (.if_icmp .ge 59, 3)), (12, (.aload_n 0, 1)), (13, (.aload_n 0, 1)), (14, (.getfield 50, 3))], [(17, (.invokevirtual 180, 3)), (20, (.ifCond .eq 48, 3)), (23, (.iinc 1 1, 3)), (26, (.iconst 0, 1)), (27, (.istore_n 2, 1)), (28, (.iload_n 2, 1)), (29, (.aload_n 0, 1)), (30, (.getfield 50, 3))], [(33, (.bipush 7, 2)), (35, (.iaload, 1)), (36, (.if_icmp .ge 29, 3)), (39, (.aload_n 0, 1)), (40, (.getfield 50, 3)), (43, (.bipush 32, 2)), (45, (.aload_n 0, 1)), (46, (.getfield 50, 3))], [(49, (.iconst 0, 1)), (50, (.iload_n 2, 1)), (51, (.iadd, 1)), (52, (.iaload, 1)), (53, (.iadd, 1)), (54, (.dup2, 1)), (55, (.iaload, 1)), (56, (.iconst 1, 1)), (57, (.iadd, 1)), (58, (.iastore, 1)), (59, (.iinc 2 1, 3)), (62, (.goto (-34), 3))], [(65, (.goto (-59), 3)), (68, (.iload_n 1, 1)), (69, (.ireturn, 1))]]
/-- Model.most (I)I -/
def jc184 : jCode := [[(0, (.iload_n 1, 1)), (1, (.iconst 0, 1)), (2, (.iconst 1, 1)), (3, (.invokestatic 81, 3)), (6, (.ifCond .ne 5, 3)), (9, (.iconst (-1), 1)), (10, (.ireturn, 1)), (11, (.bipush (-4), 2)), (13, (.istore_n 2, 1)), (14, (.iconst 0, 1)), (15, (.istore_n 3, 1))], [(16, (.iconst 0, 1)), (17, (.istore 4, 2)), (19, (.iload 4, 2)), (21, (.aload_n 0, 1)), (22, (.getfield 13, 3)), (25, (.iconst 0, 1)), (26, (.iaload, 1)), (27, (.if_icmp .ge 112, 3)), (30, (.iconst 0, 1)), (31, (.istore 5, 2))], [(33, (.iload 5, 2)), (35, (.aload_n 0, 1)), (36, (.getfield 41, 3)), (39, (.bipush 7, 2)), (41, (.iaload, 1)), (42, (.if_icmp .gt 91, 3)), (45, (.aload_n 0, 1)), (46, (.getfield 41, 3))], [(49, (.iload 4, 2)), (51, (.invokestatic 192, 3)), (54, (.bipush (-4), 2)), (56, (.if_icmp .ne 77, 3)), (59, (.aload_n 0, 1)), (60, (.invokevirtual 227, 3)), (63, (.aload_n 0, 1))], [(64, (.getfield 50, 3)), (67, (.iload 4, 2)), (69, (.iload 5, 2)), (71, (.invokestatic 205, 3)), (74, (.aload_n 0, 1)), (75, (.aload_n 0, 1)), (76, (.getfield 50, 3)), (79, (.invokevirtual 180, 3))], [(82, (.ifCond .eq 11, 3)), (85, (.aload_n 0, 1)), (86, (.aload_n 0, 1)), (87, (.getfield 50, 3)), (90, (.invokevirtual 184, 3)), (93, (.aload_n 0, 1)), (94, (.aload_n 0, 1)), (95, (.getfield 50, 3))], [(98, (.invokevirtual 242, 3)), (101, (.istore 6, 2)), (103, (.iload_n 2, 1)), (104, (.bipush (-4), 2)), (106, (.if_icmp .eq 9, 3)), (109, (.iload 6, 2)), (111, (.iload_n 3, 1))], [(112, (.if_icmp .le 15, 3)), (115, (.bipush 10, 2)), (117, (.iload 4, 2)), (119, (.imul, 1)), (120, (.iload 5, 2)), (122, (.iadd, 1)), (123, (.istore_n 2, 1)), (124, (.iload 6, 2)), (126, (.istore_n 3, 1)), (127, (.iinc 5 1, 3))], [(130, (.goto (-97), 3)), (133, (.iinc 4 1, 3)), (136, (.goto (-117), 3)), (139, (.iload_n 2, 1)), (140, (.bipush (-4), 2)), (142, (.if_icmp .eq 7, 3))], [(145, (.iload_n 1, 1)), (146, (.ifCond .ne 7, 3)), (149, (.iload_n 2, 1)), (150, (.goto 4, 3)), (153, (.iload_n 3, 1)), (154, (.ireturn, 1))]]
/-- Model.see (II)I -/
def jc185 : jCode := [[(0, (.aload_n 0, 1)), (1, (.iload_n 1, 1)), (2, (.invokevirtual 196, 3)), (5, (.ifCond .eq 13, 3)), (8, (.iload_n 2, 1)), (9, (.iconst 0, 1)), (10, (.bipush 7, 2)), (12, (.invokestatic 81, 3)), (15, (.ifCond .ne 5, 3))], [(18, (.iconst (-1), 1)), (19, (.ireturn, 1)), (20, (.aload_n 0, 1)), (21, (.getfield 149, 3)), (24, (.bipush 6, 2)), (26, (.if_icmp .ne 6, 3)), (29, (.bipush (-3), 2)), (31, (.ireturn, 1))], [(32, (.aload_n 0, 1)), (33, (.getfield 69, 3)), (36, (.aload_n 0, 1)), (37, (.getfield 149, 3)), (40, (.iload_n 1, 1)), (41, (.iastore, 1)), (42, (.aload_n 0, 1)), (43, (.getfield 72, 3)), (46, (.aload_n 0, 1)), (47, (.getfield 149, 3))], [(50, (.iload_n 2, 1)), (51, (.iastore, 1)), (52, (.aload_n 0, 1)), (53, (.dup, 1)), (54, (.getfield 149, 3)), (57, (.iconst 1, 1)), (58, (.iadd, 1)), (59, (.putfield 149, 3)), (62, (.aload_n 0, 1)), (63, (.getfield 149, 3))], [(66, (.ireturn, 1))]]
/-- Model.forget ()I -/
def jc186 : jCode := [[(0, (.aload_n 0, 1)), (1, (.getfield 149, 3)), (4, (.istore_n 1, 1)), (5, (.aload_n 0, 1)), (6, (.iconst 0, 1)), (7, (.putfield 149, 3)), (10, (.iload_n 1, 1)), (11, (.ireturn, 1))]]
/-- Model.isSo (I)Z -/
def jc187 : jCode := [[(0, (.aload_n 0, 1)), (1, (.aload_n 0, 1)), (2, (.getfield 41, 3)), (5, (.invokevirtual 173, 3)), (8, (.pop, 1)), (9, (.aload_n 0, 1)), (10, (.getfield 53, 3)), (13, (.iload_n 1, 1)), (14, (.iaload, 1)), (15, (.bipush (-4), 2))], [(17, (.if_icmp .ne 7, 3)), (20, (.iconst 0, 1)), (21, (.goto 9, 3)), (24, (.aload_n 0, 1)), (25, (.getfield 53, 3)), (28, (.iload_n 1, 1)), (29, (.iaload, 1)), (30, (.istore_n 2, 1)), (31, (.iconst 1, 1))], [(32, (.istore_n 3, 1)), (33, (.iconst 0, 1)), (34, (.istore 4, 2)), (36, (.iload 4, 2)), (38, (.aload_n 0, 1)), (39, (.getfield 149, 3)), (42, (.if_icmp .ge 41, 3)), (45, (.iload_n 3, 1)), (46, (.ifCond .eq 29, 3))], [(49, (.aload_n 0, 1)), (50, (.getfield 69, 3)), (53, (.iload 4, 2)), (55, (.iaload, 1)), (56, (.iload_n 1, 1)), (57, (.if_icmp .ne 14, 3)), (60, (.aload_n 0, 1)), (61, (.getfield 72, 3))], [(64, (.iload 4, 2)), (66, (.iaload, 1)), (67, (.iload_n 2, 1)), (68, (.if_icmp .ne 7, 3)), (71, (.iconst 1, 1)), (72, (.goto 4, 3)), (75, (.iconst 0, 1)), (76, (.istore_n 3, 1)), (77, (.iinc 4 1, 3))], [(80, (.goto (-44), 3)), (83, (.iload_n 3, 1)), (84, (.ireturn, 1))]]
/-- Model.fits (II)I -/
def jc188 : jCode := [[(0, (.aload_n 0, 1)), (1, (.iload_n 1, 1)), (2, (.invokevirtual 196, 3)), (5, (.ifCond .eq 12, 3)), (8, (.iload_n 2, 1)), (9, (.iconst 0, 1)), (10, (.iconst 1, 1)), (11, (.invokestatic 81, 3)), (14, (.ifCond .ne 5, 3))], [(17, (.iconst (-1), 1)), (18, (.ireturn, 1)), (19, (.aload_n 0, 1)), (20, (.getfield 35, 3)), (23, (.iload_n 1, 1)), (24, (.iaload, 1)), (25, (.istore_n 3, 1)), (26, (.aload_n 0, 1)), (27, (.getfield 32, 3)), (30, (.iload_n 1, 1)), (31, (.iaload, 1))], [(32, (.istore 4, 2)), (34, (.iconst 0, 1)), (35, (.istore 5, 2)), (37, (.iconst 0, 1)), (38, (.istore 6, 2)), (40, (.iload 6, 2)), (42, (.iload_n 2, 1)), (43, (.ifCond .ne 8, 3)), (46, (.bipush 30, 2))], [(48, (.goto 4, 3)), (51, (.iconst 3, 1)), (52, (.if_icmp .gt 63, 3)), (55, (.aload_n 0, 1)), (56, (.getfield 35, 3)), (59, (.iload_n 1, 1)), (60, (.iload_n 2, 1)), (61, (.ifCond .ne 8, 3))], [(64, (.iload 6, 2)), (66, (.goto 4, 3)), (69, (.iload_n 3, 1)), (70, (.iastore, 1)), (71, (.aload_n 0, 1)), (72, (.getfield 32, 3)), (75, (.iload_n 1, 1)), (76, (.iload_n 2, 1)), (77, (.ifCond .ne 8, 3))], [(80, (.iload 4, 2)), (82, (.goto 5, 3)), (85, (.iload 6, 2)), (87, (.iastore, 1)), (88, (.iload 5, 2)), (90, (.aload_n 0, 1)), (91, (.iload_n 1, 1)), (92, (.invokevirtual 245, 3)), (95, (.ifCond .eq 10, 3))], [(98, (.iconst 1, 1)), (99, (.iload 6, 2)), (101, (.ishl, 1)), (102, (.goto 4, 3)), (105, (.iconst 0, 1)), (106, (.ior, 1)), (107, (.istore 5, 2)), (109, (.iinc 6 1, 3))], [(112, (.goto (-72), 3)), (115, (.aload_n 0, 1)), (116, (.getfield 35, 3)), (119, (.iload_n 1, 1)), (120, (.iload_n 3, 1)), (121, (.iastore, 1)), (122, (.aload_n 0, 1)), (123, (.getfield 32, 3)), (126, (.iload_n 1, 1)), (127, (.iload 4, 2))], [(129, (.iastore, 1)), (130, (.iload 5, 2)), (132, (.ireturn, 1))]]
/-- Model.coughs (II)I -/
def jc189 : jCode := [[(0, (.iload_n 1, 1)), (1, (.iconst 0, 1)), (2, (.bipush 10, 2)), (4, (.invokestatic 81, 3)), (7, (.ifCond .eq 12, 3)), (10, (.iload_n 2, 1)), (11, (.iconst 0, 1)), (12, (.iconst 1, 1)), (13, (.invokestatic 81, 3))], [(16, (.ifCond .ne 5, 3)), (19, (.iconst (-1), 1)), (20, (.ireturn, 1)), (21, (.iconst 0, 1)), (22, (.istore_n 3, 1)), (23, (.iconst 1, 1)), (24, (.istore 4, 2)), (26, (.iconst 0, 1)), (27, (.istore 5, 2)), (29, (.iload 5, 2)), (31, (.iconst 1, 1))], [(32, (.aload_n 0, 1)), (33, (.getfield 26, 3)), (36, (.iconst 0, 1)), (37, (.iaload, 1)), (38, (.ishl, 1)), (39, (.if_icmp .ge 125, 3)), (42, (.iconst 1, 1)), (43, (.istore 6, 2)), (45, (.iconst 0, 1)), (46, (.istore 7, 2))], [(48, (.iload 7, 2)), (50, (.aload_n 0, 1)), (51, (.getfield 26, 3)), (54, (.iconst 0, 1)), (55, (.iaload, 1)), (56, (.if_icmp .ge 71, 3)), (59, (.iload 5, 2)), (61, (.iload 7, 2)), (63, (.ishr, 1))], [(64, (.iconst 1, 1)), (65, (.iand, 1)), (66, (.iconst 1, 1)), (67, (.if_icmp .ne 7, 3)), (70, (.iconst 1, 1)), (71, (.goto 4, 3)), (74, (.iconst 0, 1)), (75, (.istore 8, 2)), (77, (.iload 6, 2)), (79, (.aload_n 0, 1))], [(80, (.aload_n 0, 1)), (81, (.getfield 41, 3)), (84, (.iload 7, 2)), (86, (.invokevirtual 160, 3)), (89, (.ifCond .eq 19, 3)), (92, (.iload 8, 2)), (94, (.ifCond .eq 7, 3))], [(97, (.iload_n 1, 1)), (98, (.goto 20, 3)), (101, (.bipush 10, 2)), (103, (.iload_n 1, 1)), (104, (.isub, 1)), (105, (.goto 13, 3)), (108, (.iload 8, 2)), (110, (.ifCond .eq 7, 3))], [(113, (.iconst 0, 1)), (114, (.goto 4, 3)), (117, (.iconst 1, 1)), (118, (.imul, 1)), (119, (.istore 6, 2)), (121, (.iinc 7 1, 3)), (124, (.goto (-76), 3)), (127, (.aload_n 0, 1))], [(128, (.iload 5, 2)), (130, (.putfield 163, 3)), (133, (.iload_n 3, 1)), (134, (.iload 6, 2)), (136, (.ifCond .le 19, 3)), (139, (.aload_n 0, 1)), (140, (.aload_n 0, 1)), (141, (.getfield 41, 3))], [(144, (.invokevirtual 180, 3)), (147, (.ifCond .eq 8, 3)), (150, (.iload 6, 2)), (152, (.goto 4, 3)), (155, (.iconst 0, 1)), (156, (.iadd, 1)), (157, (.istore_n 3, 1)), (158, (.iinc 5 1, 3))], [(161, (.goto (-132), 3)), (164, (.aload_n 0, 1)), (165, (.iconst 0, 1)), (166, (.putfield 163, 3)), (169, (.iconst 0, 1)), (170, (.istore 5, 2)), (172, (.iload 5, 2)), (174, (.aload_n 0, 1)), (175, (.getfield 26, 3))], [(178, (.iconst 0, 1)), (179, (.iaload, 1)), (180, (.if_icmp .ge 33, 3)), (183, (.iload 4, 2)), (185, (.aload_n 0, 1)), (186, (.aload_n 0, 1)), (187, (.getfield 41, 3)), (190, (.iload 5, 2))], [(192, (.invokevirtual 160, 3)), (195, (.ifCond .eq 8, 3)), (198, (.bipush 10, 2)), (200, (.goto 4, 3)), (203, (.iconst 1, 1)), (204, (.imul, 1)), (205, (.istore 4, 2)), (207, (.iinc 5 1, 3))], [(210, (.goto (-38), 3)), (213, (.iload_n 3, 1)), (214, (.istore 5, 2)), (216, (.iload 4, 2)), (218, (.istore 6, 2)), (220, (.iload 6, 2)), (222, (.ifCond .eq 21, 3))], [(225, (.iload 5, 2)), (227, (.iload 6, 2)), (229, (.irem, 1)), (230, (.istore 7, 2)), (232, (.iload 6, 2)), (234, (.istore 5, 2)), (236, (.iload 7, 2)), (238, (.istore 6, 2))], [(240, (.goto (-20), 3)), (243, (.iload_n 2, 1)), (244, (.ifCond .ne 10, 3)), (247, (.iload_n 3, 1)), (248, (.iload 5, 2)), (250, (.idiv, 1)), (251, (.goto 8, 3)), (254, (.iload 4, 2))], [(256, (.iload 5, 2)), (258, (.idiv, 1)), (259, (.ireturn, 1))]]
/-- Model.turn (I)I -/
def jc190 : jCode := [[(0, (.iload_n 1, 1)), (1, (.bipush 8, 2)), (3, (.idiv, 1)), (4, (.aload_n 0, 1)), (5, (.getfield 13, 3)), (8, (.iconst 0, 1)), (9, (.iaload, 1)), (10, (.irem, 1)), (11, (.istore_n 2, 1)), (12, (.iload_n 1, 1)), (13, (.bipush 8, 2)), (15, (.idiv, 1))], [(16, (.aload_n 0, 1)), (17, (.getfield 26, 3)), (20, (.iconst 0, 1)), (21, (.iaload, 1)), (22, (.irem, 1)), (23, (.istore_n 3, 1)), (24, (.iload_n 1, 1)), (25, (.bipush 64, 2)), (27, (.idiv, 1)), (28, (.aload_n 0, 1)), (29, (.getfield 26, 3))], [(32, (.iconst 0, 1)), (33, (.iaload, 1)), (34, (.irem, 1)), (35, (.istore 4, 2)), (37, (.aload_n 0, 1)), (38, (.getfield 50, 3)), (41, (.iload_n 2, 1)), (42, (.invokestatic 192, 3)), (45, (.istore 5, 2)), (47, (.iload_n 1, 1))], [(48, (.bipush 8, 2)), (50, (.irem, 1)), (51, (.tableswitch 115 0 4 #[33, 33, 57, 75, 94], 33))], [], [(84, (.iload 5, 2)), (86, (.bipush (-4), 2)), (88, (.if_icmp .ne 18, 3)), (91, (.aload_n 0, 1)), (92, (.getfield 50, 3)), (95, (.iload_n 2, 1))], [(96, (.aload_n 0, 1)), (97, (.getfield 50, 3)), (100, (.bipush 7, 2)), (102, (.iaload, 1)), (103, (.invokestatic 205, 3)), (106, (.iconst 0, 1)), (107, (.ireturn, 1)), (108, (.iload 5, 2)), (110, (.bipush (-4), 2))], [(112, (.if_icmp .eq 12, 3)), (115, (.aload_n 0, 1)), (116, (.getfield 50, 3)), (119, (.iload 5, 2)), (121, (.invokestatic 208, 3)), (124, (.iconst 0, 1)), (125, (.ireturn, 1)), (126, (.iload_n 3, 1)), (127, (.iload 4, 2))], [(129, (.if_icmp .eq 14, 3)), (132, (.aload_n 0, 1)), (133, (.aload_n 0, 1)), (134, (.getfield 50, 3)), (137, (.iload_n 3, 1)), (138, (.iload 4, 2)), (140, (.invokevirtual 218, 3)), (143, (.iconst 0, 1))], [(144, (.ireturn, 1)), (145, (.aload_n 0, 1)), (146, (.getfield 50, 3)), (149, (.iload_n 3, 1)), (150, (.invokestatic 221, 3)), (153, (.ifCond .eq 11, 3)), (156, (.aload_n 0, 1)), (157, (.getfield 50, 3))], [(160, (.iload_n 3, 1)), (161, (.invokestatic 224, 3)), (164, (.iconst 0, 1)), (165, (.ireturn, 1)), (166, (.aload_n 0, 1)), (167, (.aload_n 0, 1)), (168, (.getfield 50, 3)), (171, (.invokevirtual 212, 3)), (174, (.ifCond .eq 18, 3))], [(177, (.aload_n 0, 1)), (178, (.aload_n 0, 1)), (179, (.getfield 50, 3)), (182, (.invokevirtual 215, 3)), (185, (.ifCond .eq 7, 3)), (188, (.iconst 1, 1)), (189, (.goto 4, 3))], [(192, (.iconst 0, 1)), (193, (.ireturn, 1))]]
/-- Model.season (III)I -/
def jc191 : jCode := [[(0, (.iload_n 1, 1)), (1, (.iconst 0, 1)), (2, (.sipush 9999, 3)), (5, (.invokestatic 81, 3)), (8, (.ifCond .eq 22, 3)), (11, (.iload_n 2, 1)), (12, (.iconst 1, 1)), (13, (.bipush 40, 2)), (15, (.invokestatic 81, 3))], [(18, (.ifCond .eq 12, 3)), (21, (.iload_n 3, 1)), (22, (.iconst 0, 1)), (23, (.iconst 1, 1)), (24, (.invokestatic 81, 3)), (27, (.ifCond .ne 5, 3)), (30, (.iconst (-1), 1)), (31, (.ireturn, 1))], [(32, (.aload_n 0, 1)), (33, (.invokevirtual 227, 3)), (36, (.iconst 0, 1)), (37, (.istore 4, 2)), (39, (.iconst 0, 1)), (40, (.istore 5, 2)), (42, (.iload 5, 2)), (44, (.iload_n 2, 1)), (45, (.if_icmp .ge 46, 3))], [(48, (.ldc2_w 248, 3)), (51, (.iload_n 1, 1)), (52, (.i2l, 1)), (53, (.lmul, 1)), (54, (.ldc2_w 250, 3)), (57, (.iload 5, 2)), (59, (.i2l, 1)), (60, (.lmul, 1)), (61, (.ladd, 1)), (62, (.lconst 1, 1)), (63, (.ladd, 1))], [(64, (.lstore 6, 2)), (66, (.iload 4, 2)), (68, (.aload_n 0, 1)), (69, (.lload 6, 2)), (71, (.lload 6, 2)), (73, (.lmul, 1)), (74, (.ldc2_w 252, 3)), (77, (.lrem, 1)), (78, (.l2i, 1)), (79, (.invokevirtual 254, 3))], [(82, (.iadd, 1)), (83, (.istore 4, 2)), (85, (.iinc 5 1, 3)), (88, (.goto (-46), 3)), (91, (.iload_n 3, 1)), (92, (.ifCond .ne 8, 3)), (95, (.iload 4, 2))], [(97, (.goto 11, 3)), (100, (.aload_n 0, 1)), (101, (.aload_n 0, 1)), (102, (.getfield 50, 3)), (105, (.invokevirtual 242, 3)), (108, (.ireturn, 1))]]
/-- Model.keep ()I -/
def jc192 : jCode := [[(0, (.aload_n 0, 1)), (1, (.getfield 146, 3)), (4, (.iconst 2, 1)), (5, (.if_icmp .ne 6, 3)), (8, (.bipush (-3), 2)), (10, (.ireturn, 1)), (11, (.iconst 0, 1)), (12, (.istore_n 1, 1)), (13, (.iload_n 1, 1)), (14, (.bipush 39, 2))], [(16, (.if_icmp .ge 29, 3)), (19, (.aload_n 0, 1)), (20, (.getfield 47, 3)), (23, (.bipush 39, 2)), (25, (.aload_n 0, 1)), (26, (.getfield 146, 3)), (29, (.imul, 1)), (30, (.iload_n 1, 1)), (31, (.iadd, 1))], [(32, (.aload_n 0, 1)), (33, (.getfield 41, 3)), (36, (.iload_n 1, 1)), (37, (.iaload, 1)), (38, (.iastore, 1)), (39, (.iinc 1 1, 3)), (42, (.goto (-29), 3)), (45, (.aload_n 0, 1)), (46, (.dup, 1)), (47, (.getfield 146, 3))], [(50, (.iconst 1, 1)), (51, (.iadd, 1)), (52, (.putfield 146, 3)), (55, (.aload_n 0, 1)), (56, (.getfield 146, 3)), (59, (.ireturn, 1))]]
/-- Model.back ()I -/
def jc193 : jCode := [[(0, (.aload_n 0, 1)), (1, (.getfield 146, 3)), (4, (.ifCond .ne 6, 3)), (7, (.bipush (-2), 2)), (9, (.ireturn, 1)), (10, (.aload_n 0, 1)), (11, (.dup, 1)), (12, (.getfield 146, 3)), (15, (.iconst 1, 1))], [(16, (.isub, 1)), (17, (.putfield 146, 3)), (20, (.iconst 0, 1)), (21, (.istore_n 1, 1)), (22, (.iload_n 1, 1)), (23, (.bipush 39, 2)), (25, (.if_icmp .ge 29, 3)), (28, (.aload_n 0, 1)), (29, (.getfield 41, 3))], [(32, (.iload_n 1, 1)), (33, (.aload_n 0, 1)), (34, (.getfield 47, 3)), (37, (.bipush 39, 2)), (39, (.aload_n 0, 1)), (40, (.getfield 146, 3)), (43, (.imul, 1)), (44, (.iload_n 1, 1)), (45, (.iadd, 1)), (46, (.iaload, 1)), (47, (.iastore, 1))], [(48, (.iinc 1 1, 3)), (51, (.goto (-29), 3)), (54, (.aload_n 0, 1)), (55, (.iconst 0, 1)), (56, (.putfield 143, 3)), (59, (.aload_n 0, 1)), (60, (.getfield 146, 3)), (63, (.ireturn, 1))]]
/-- Model.count (I)I -/
def jc194 : jCode := [[(0, (.iload_n 1, 1)), (1, (.tableswitch 147 0 11 #[63, 70, 77, 85, 93, 101, 109, 118, 127, 132, 137, 142], 63))], [], [], [], [(64, (.aload_n 0, 1)), (65, (.getfield 13, 3)), (68, (.iconst 0, 1)), (69, (.iaload, 1)), (70, (.ireturn, 1)), (71, (.aload_n 0, 1)), (72, (.getfield 26, 3)), (75, (.iconst 0, 1)), (76, (.iaload, 1)), (77, (.ireturn, 1)), (78, (.aload_n 0, 1)), (79, (.getfield 41, 3))], [(82, (.bipush 7, 2)), (84, (.iaload, 1)), (85, (.ireturn, 1)), (86, (.aload_n 0, 1)), (87, (.getfield 41, 3)), (90, (.bipush 8, 2)), (92, (.iaload, 1)), (93, (.ireturn, 1)), (94, (.aload_n 0, 1)), (95, (.getfield 41, 3))], [(98, (.bipush 9, 2)), (100, (.iaload, 1)), (101, (.ireturn, 1)), (102, (.aload_n 0, 1)), (103, (.getfield 41, 3)), (106, (.bipush 10, 2)), (108, (.iaload, 1)), (109, (.ireturn, 1)), (110, (.aload_n 0, 1)), (111, (.aload_n 0, 1))], [(112, (.getfield 41, 3)), (115, (.invokevirtual 177, 3)), (118, (.ireturn, 1)), (119, (.aload_n 0, 1)), (120, (.aload_n 0, 1)), (121, (.getfield 41, 3)), (124, (.invokevirtual 242, 3)), (127, (.ireturn, 1))], [(128, (.aload_n 0, 1)), (129, (.getfield 149, 3)), (132, (.ireturn, 1)), (133, (.aload_n 0, 1)), (134, (.getfield 143, 3)), (137, (.ireturn, 1)), (138, (.aload_n 0, 1)), (139, (.getfield 146, 3)), (142, (.ireturn, 1)), (143, (.aload_n 0, 1))], [(144, (.getfield 85, 3)), (147, (.ireturn, 1)), (148, (.iconst (-1), 1)), (149, (.ireturn, 1))]]
/-- Integer.bitCount (I)I -/
def jc195 : jCode := [[(0, (.iload_n 0, 1)), (1, (.iload_n 0, 1)), (2, (.iconst 1, 1)), (3, (.iushr, 1)), (4, (.ldc_w 265, 3)), (7, (.iand, 1)), (8, (.isub, 1)), (9, (.istore_n 0, 1)), (10, (.iload_n 0, 1)), (11, (.ldc_w 266, 3)), (14, (.iand, 1)), (15, (.iload_n 0, 1))], [(16, (.iconst 2, 1)), (17, (.iushr, 1)), (18, (.ldc_w 266, 3)), (21, (.iand, 1)), (22, (.iadd, 1)), (23, (.istore_n 0, 1)), (24, (.iload_n 0, 1)), (25, (.iload_n 0, 1)), (26, (.iconst 4, 1)), (27, (.iushr, 1)), (28, (.iadd, 1)), (29, (.ldc_w 267, 3))], [(32, (.iand, 1)), (33, (.istore_n 0, 1)), (34, (.iload_n 0, 1)), (35, (.iload_n 0, 1)), (36, (.bipush 8, 2)), (38, (.iushr, 1)), (39, (.iadd, 1)), (40, (.istore_n 0, 1)), (41, (.iload_n 0, 1)), (42, (.iload_n 0, 1)), (43, (.bipush 16, 2)), (45, (.iushr, 1)), (46, (.iadd, 1)), (47, (.istore_n 0, 1))], [(48, (.iload_n 0, 1)), (49, (.bipush 63, 2)), (51, (.iand, 1)), (52, (.ireturn, 1))]]
/-- Arrays.fill ([II)V -/
def jc196 : jCode := [[(0, (.iconst 0, 1)), (1, (.istore_n 2, 1)), (2, (.aload_n 0, 1)), (3, (.arraylength, 1)), (4, (.istore_n 3, 1)), (5, (.iload_n 2, 1)), (6, (.iload_n 3, 1)), (7, (.if_icmp .ge 13, 3)), (10, (.aload_n 0, 1)), (11, (.iload_n 2, 1)), (12, (.iload_n 1, 1)), (13, (.iastore, 1)), (14, (.iinc 2 1, 3))], [(17, (.goto (-12), 3)), (20, (.return_, 1))]]
/-- Law.law ([I)Z -/
def jc197 : jCode := [[(0, (.new 7, 3)), (3, (.dup, 1)), (4, (.invokespecial 9, 3)), (7, (.astore_n 1, 1)), (8, (.new 10, 3)), (11, (.dup, 1)), (12, (.invokespecial 12, 3)), (15, (.astore_n 2, 1))], [(16, (.iconst 0, 1)), (17, (.istore_n 3, 1)), (18, (.iload_n 3, 1)), (19, (.aload_n 0, 1)), (20, (.arraylength, 1)), (21, (.iconst 4, 1)), (22, (.isub, 1)), (23, (.if_icmp .gt 787, 3)), (26, (.aload_n 0, 1)), (27, (.iload_n 3, 1)), (28, (.iaload, 1)), (29, (.bipush 31, 2)), (31, (.iand, 1))], [(32, (.tableswitch 772 0 27 #[128, 151, 164, 177, 190, 223, 256, 289, 312, 335, 358, 371, 404, 427, 440, 473, 496, 519, 532, 545, 568, 601, 614, 647, 680, 723, 736, 749], 128))], [], [], [], [], [], [], [], [(160, (.aload_n 1, 1)), (161, (.aload_n 0, 1)), (162, (.iload_n 3, 1)), (163, (.iconst 1, 1)), (164, (.iadd, 1)), (165, (.iaload, 1)), (166, (.invokevirtual 13, 3)), (169, (.aload_n 2, 1)), (170, (.aload_n 0, 1)), (171, (.iload_n 3, 1)), (172, (.iconst 1, 1)), (173, (.iadd, 1)), (174, (.iaload, 1)), (175, (.invokevirtual 17, 3))], [(178, (.if_icmp .eq 626, 3)), (181, (.iconst 0, 1)), (182, (.ireturn, 1)), (183, (.aload_n 1, 1)), (184, (.invokevirtual 18, 3)), (187, (.aload_n 2, 1)), (188, (.invokevirtual 22, 3)), (191, (.if_icmp .eq 613, 3))], [(194, (.iconst 0, 1)), (195, (.ireturn, 1)), (196, (.aload_n 1, 1)), (197, (.invokevirtual 23, 3)), (200, (.aload_n 2, 1)), (201, (.invokevirtual 26, 3)), (204, (.if_icmp .eq 600, 3)), (207, (.iconst 0, 1))], [(208, (.ireturn, 1)), (209, (.aload_n 1, 1)), (210, (.invokevirtual 27, 3)), (213, (.aload_n 2, 1)), (214, (.invokevirtual 30, 3)), (217, (.if_icmp .eq 587, 3)), (220, (.iconst 0, 1)), (221, (.ireturn, 1)), (222, (.aload_n 1, 1)), (223, (.aload_n 0, 1))], [(224, (.iload_n 3, 1)), (225, (.iconst 1, 1)), (226, (.iadd, 1)), (227, (.iaload, 1)), (228, (.aload_n 0, 1)), (229, (.iload_n 3, 1)), (230, (.iconst 2, 1)), (231, (.iadd, 1)), (232, (.iaload, 1)), (233, (.invokevirtual 31, 3)), (236, (.aload_n 2, 1)), (237, (.aload_n 0, 1)), (238, (.iload_n 3, 1)), (239, (.iconst 1, 1))], [(240, (.iadd, 1)), (241, (.iaload, 1)), (242, (.aload_n 0, 1)), (243, (.iload_n 3, 1)), (244, (.iconst 2, 1)), (245, (.iadd, 1)), (246, (.iaload, 1)), (247, (.invokevirtual 35, 3)), (250, (.if_icmp .eq 554, 3)), (253, (.iconst 0, 1)), (254, (.ireturn, 1)), (255, (.aload_n 1, 1))], [(256, (.aload_n 0, 1)), (257, (.iload_n 3, 1)), (258, (.iconst 1, 1)), (259, (.iadd, 1)), (260, (.iaload, 1)), (261, (.aload_n 0, 1)), (262, (.iload_n 3, 1)), (263, (.iconst 2, 1)), (264, (.iadd, 1)), (265, (.iaload, 1)), (266, (.invokevirtual 36, 3)), (269, (.aload_n 2, 1)), (270, (.aload_n 0, 1)), (271, (.iload_n 3, 1))], [(272, (.iconst 1, 1)), (273, (.iadd, 1)), (274, (.iaload, 1)), (275, (.aload_n 0, 1)), (276, (.iload_n 3, 1)), (277, (.iconst 2, 1)), (278, (.iadd, 1)), (279, (.iaload, 1)), (280, (.invokevirtual 39, 3)), (283, (.if_icmp .eq 521, 3)), (286, (.iconst 0, 1)), (287, (.ireturn, 1))], [(288, (.aload_n 1, 1)), (289, (.aload_n 0, 1)), (290, (.iload_n 3, 1)), (291, (.iconst 1, 1)), (292, (.iadd, 1)), (293, (.iaload, 1)), (294, (.aload_n 0, 1)), (295, (.iload_n 3, 1)), (296, (.iconst 2, 1)), (297, (.iadd, 1)), (298, (.iaload, 1)), (299, (.invokevirtual 40, 3)), (302, (.aload_n 2, 1)), (303, (.aload_n 0, 1))], [(304, (.iload_n 3, 1)), (305, (.iconst 1, 1)), (306, (.iadd, 1)), (307, (.iaload, 1)), (308, (.aload_n 0, 1)), (309, (.iload_n 3, 1)), (310, (.iconst 2, 1)), (311, (.iadd, 1)), (312, (.iaload, 1)), (313, (.invokevirtual 43, 3)), (316, (.if_icmp .eq 488, 3)), (319, (.iconst 0, 1))], [(320, (.ireturn, 1)), (321, (.aload_n 1, 1)), (322, (.aload_n 0, 1)), (323, (.iload_n 3, 1)), (324, (.iconst 1, 1)), (325, (.iadd, 1)), (326, (.iaload, 1)), (327, (.invokevirtual 44, 3)), (330, (.aload_n 2, 1)), (331, (.aload_n 0, 1)), (332, (.iload_n 3, 1)), (333, (.iconst 1, 1)), (334, (.iadd, 1)), (335, (.iaload, 1))], [(336, (.invokevirtual 47, 3)), (339, (.if_icmp .eq 465, 3)), (342, (.iconst 0, 1)), (343, (.ireturn, 1)), (344, (.aload_n 1, 1)), (345, (.aload_n 0, 1)), (346, (.iload_n 3, 1)), (347, (.iconst 1, 1)), (348, (.iadd, 1)), (349, (.iaload, 1)), (350, (.invokevirtual 48, 3))], [(353, (.aload_n 2, 1)), (354, (.aload_n 0, 1)), (355, (.iload_n 3, 1)), (356, (.iconst 1, 1)), (357, (.iadd, 1)), (358, (.iaload, 1)), (359, (.invokevirtual 51, 3)), (362, (.if_icmp .eq 442, 3)), (365, (.iconst 0, 1)), (366, (.ireturn, 1)), (367, (.aload_n 1, 1))], [(368, (.aload_n 0, 1)), (369, (.iload_n 3, 1)), (370, (.iconst 1, 1)), (371, (.iadd, 1)), (372, (.iaload, 1)), (373, (.invokevirtual 52, 3)), (376, (.aload_n 2, 1)), (377, (.aload_n 0, 1)), (378, (.iload_n 3, 1)), (379, (.iconst 1, 1)), (380, (.iadd, 1)), (381, (.iaload, 1)), (382, (.invokevirtual 55, 3))], [(385, (.if_icmp .eq 419, 3)), (388, (.iconst 0, 1)), (389, (.ireturn, 1)), (390, (.aload_n 1, 1)), (391, (.invokevirtual 56, 3)), (394, (.aload_n 2, 1)), (395, (.invokevirtual 59, 3)), (398, (.if_icmp .eq 406, 3))], [(401, (.iconst 0, 1)), (402, (.ireturn, 1)), (403, (.aload_n 1, 1)), (404, (.aload_n 0, 1)), (405, (.iload_n 3, 1)), (406, (.iconst 1, 1)), (407, (.iadd, 1)), (408, (.iaload, 1)), (409, (.aload_n 0, 1)), (410, (.iload_n 3, 1)), (411, (.iconst 2, 1)), (412, (.iadd, 1)), (413, (.iaload, 1)), (414, (.invokevirtual 60, 3))], [(417, (.aload_n 2, 1)), (418, (.aload_n 0, 1)), (419, (.iload_n 3, 1)), (420, (.iconst 1, 1)), (421, (.iadd, 1)), (422, (.iaload, 1)), (423, (.aload_n 0, 1)), (424, (.iload_n 3, 1)), (425, (.iconst 2, 1)), (426, (.iadd, 1)), (427, (.iaload, 1)), (428, (.invokevirtual 63, 3)), (431, (.if_icmp .eq 373, 3))], [(434, (.iconst 0, 1)), (435, (.ireturn, 1)), (436, (.aload_n 1, 1)), (437, (.aload_n 0, 1)), (438, (.iload_n 3, 1)), (439, (.iconst 1, 1)), (440, (.iadd, 1)), (441, (.iaload, 1)), (442, (.invokevirtual 64, 3)), (445, (.aload_n 2, 1)), (446, (.aload_n 0, 1)), (447, (.iload_n 3, 1))], [(448, (.iconst 1, 1)), (449, (.iadd, 1)), (450, (.iaload, 1)), (451, (.invokevirtual 67, 3)), (454, (.if_icmp .eq 350, 3)), (457, (.iconst 0, 1)), (458, (.ireturn, 1)), (459, (.aload_n 1, 1)), (460, (.invokevirtual 68, 3)), (463, (.aload_n 2, 1))], [(464, (.invokevirtual 71, 3)), (467, (.if_icmp .eq 337, 3)), (470, (.iconst 0, 1)), (471, (.ireturn, 1)), (472, (.aload_n 1, 1)), (473, (.aload_n 0, 1)), (474, (.iload_n 3, 1)), (475, (.iconst 1, 1)), (476, (.iadd, 1)), (477, (.iaload, 1)), (478, (.aload_n 0, 1)), (479, (.iload_n 3, 1))], [(480, (.iconst 2, 1)), (481, (.iadd, 1)), (482, (.iaload, 1)), (483, (.invokevirtual 72, 3)), (486, (.aload_n 2, 1)), (487, (.aload_n 0, 1)), (488, (.iload_n 3, 1)), (489, (.iconst 1, 1)), (490, (.iadd, 1)), (491, (.iaload, 1)), (492, (.aload_n 0, 1)), (493, (.iload_n 3, 1)), (494, (.iconst 2, 1)), (495, (.iadd, 1))], [(496, (.iaload, 1)), (497, (.invokevirtual 75, 3)), (500, (.if_icmp .eq 304, 3)), (503, (.iconst 0, 1)), (504, (.ireturn, 1)), (505, (.aload_n 1, 1)), (506, (.aload_n 0, 1)), (507, (.iload_n 3, 1)), (508, (.iconst 1, 1)), (509, (.iadd, 1)), (510, (.iaload, 1)), (511, (.invokevirtual 76, 3))], [(514, (.aload_n 2, 1)), (515, (.aload_n 0, 1)), (516, (.iload_n 3, 1)), (517, (.iconst 1, 1)), (518, (.iadd, 1)), (519, (.iaload, 1)), (520, (.invokevirtual 79, 3)), (523, (.if_icmp .eq 281, 3)), (526, (.iconst 0, 1)), (527, (.ireturn, 1))], [(528, (.aload_n 1, 1)), (529, (.aload_n 0, 1)), (530, (.iload_n 3, 1)), (531, (.iconst 1, 1)), (532, (.iadd, 1)), (533, (.iaload, 1)), (534, (.invokevirtual 80, 3)), (537, (.aload_n 2, 1)), (538, (.aload_n 0, 1)), (539, (.iload_n 3, 1)), (540, (.iconst 1, 1)), (541, (.iadd, 1)), (542, (.iaload, 1)), (543, (.invokevirtual 83, 3))], [(546, (.if_icmp .eq 258, 3)), (549, (.iconst 0, 1)), (550, (.ireturn, 1)), (551, (.aload_n 1, 1)), (552, (.invokevirtual 84, 3)), (555, (.aload_n 2, 1)), (556, (.invokevirtual 87, 3)), (559, (.if_icmp .eq 245, 3))], [(562, (.iconst 0, 1)), (563, (.ireturn, 1)), (564, (.aload_n 1, 1)), (565, (.invokevirtual 88, 3)), (568, (.aload_n 2, 1)), (569, (.invokevirtual 91, 3)), (572, (.if_icmp .eq 232, 3)), (575, (.iconst 0, 1))], [(576, (.ireturn, 1)), (577, (.aload_n 1, 1)), (578, (.aload_n 0, 1)), (579, (.iload_n 3, 1)), (580, (.iconst 1, 1)), (581, (.iadd, 1)), (582, (.iaload, 1)), (583, (.invokevirtual 92, 3)), (586, (.aload_n 2, 1)), (587, (.aload_n 0, 1)), (588, (.iload_n 3, 1)), (589, (.iconst 1, 1)), (590, (.iadd, 1)), (591, (.iaload, 1))], [(592, (.invokevirtual 95, 3)), (595, (.if_icmp .eq 209, 3)), (598, (.iconst 0, 1)), (599, (.ireturn, 1)), (600, (.aload_n 1, 1)), (601, (.aload_n 0, 1)), (602, (.iload_n 3, 1)), (603, (.iconst 1, 1)), (604, (.iadd, 1)), (605, (.iaload, 1)), (606, (.aload_n 0, 1)), (607, (.iload_n 3, 1))], [(608, (.iconst 2, 1)), (609, (.iadd, 1)), (610, (.iaload, 1)), (611, (.invokevirtual 96, 3)), (614, (.aload_n 2, 1)), (615, (.aload_n 0, 1)), (616, (.iload_n 3, 1)), (617, (.iconst 1, 1)), (618, (.iadd, 1)), (619, (.iaload, 1)), (620, (.aload_n 0, 1)), (621, (.iload_n 3, 1)), (622, (.iconst 2, 1)), (623, (.iadd, 1))], [(624, (.iaload, 1)), (625, (.invokevirtual 99, 3)), (628, (.if_icmp .eq 176, 3)), (631, (.iconst 0, 1)), (632, (.ireturn, 1)), (633, (.aload_n 1, 1)), (634, (.invokevirtual 100, 3)), (637, (.aload_n 2, 1)), (638, (.invokevirtual 103, 3))], [(641, (.if_icmp .eq 163, 3)), (644, (.iconst 0, 1)), (645, (.ireturn, 1)), (646, (.aload_n 1, 1)), (647, (.aload_n 0, 1)), (648, (.iload_n 3, 1)), (649, (.iconst 1, 1)), (650, (.iadd, 1)), (651, (.iaload, 1)), (652, (.aload_n 0, 1)), (653, (.iload_n 3, 1)), (654, (.iconst 2, 1)), (655, (.iadd, 1))], [(656, (.iaload, 1)), (657, (.invokevirtual 104, 3)), (660, (.aload_n 2, 1)), (661, (.aload_n 0, 1)), (662, (.iload_n 3, 1)), (663, (.iconst 1, 1)), (664, (.iadd, 1)), (665, (.iaload, 1)), (666, (.aload_n 0, 1)), (667, (.iload_n 3, 1)), (668, (.iconst 2, 1)), (669, (.iadd, 1)), (670, (.iaload, 1)), (671, (.invokevirtual 107, 3))], [(674, (.if_icmp .eq 130, 3)), (677, (.iconst 0, 1)), (678, (.ireturn, 1)), (679, (.aload_n 1, 1)), (680, (.aload_n 0, 1)), (681, (.iload_n 3, 1)), (682, (.iconst 1, 1)), (683, (.iadd, 1)), (684, (.iaload, 1)), (685, (.aload_n 0, 1)), (686, (.iload_n 3, 1)), (687, (.iconst 2, 1))], [(688, (.iadd, 1)), (689, (.iaload, 1)), (690, (.invokevirtual 108, 3)), (693, (.aload_n 2, 1)), (694, (.aload_n 0, 1)), (695, (.iload_n 3, 1)), (696, (.iconst 1, 1)), (697, (.iadd, 1)), (698, (.iaload, 1)), (699, (.aload_n 0, 1)), (700, (.iload_n 3, 1)), (701, (.iconst 2, 1)), (702, (.iadd, 1)), (703, (.iaload, 1))], [(704, (.invokevirtual 111, 3)), (707, (.if_icmp .eq 97, 3)), (710, (.iconst 0, 1)), (711, (.ireturn, 1)), (712, (.aload_n 1, 1)), (713, (.aload_n 0, 1)), (714, (.iload_n 3, 1)), (715, (.iconst 1, 1)), (716, (.iadd, 1)), (717, (.iaload, 1)), (718, (.aload_n 0, 1)), (719, (.iload_n 3, 1))], [(720, (.iconst 2, 1)), (721, (.iadd, 1)), (722, (.iaload, 1)), (723, (.aload_n 0, 1)), (724, (.iload_n 3, 1)), (725, (.iconst 3, 1)), (726, (.iadd, 1)), (727, (.iaload, 1)), (728, (.invokevirtual 112, 3)), (731, (.aload_n 2, 1)), (732, (.aload_n 0, 1)), (733, (.iload_n 3, 1)), (734, (.iconst 1, 1)), (735, (.iadd, 1))], [(736, (.iaload, 1)), (737, (.aload_n 0, 1)), (738, (.iload_n 3, 1)), (739, (.iconst 2, 1)), (740, (.iadd, 1)), (741, (.iaload, 1)), (742, (.aload_n 0, 1)), (743, (.iload_n 3, 1)), (744, (.iconst 3, 1)), (745, (.iadd, 1)), (746, (.iaload, 1)), (747, (.invokevirtual 116, 3)), (750, (.if_icmp .eq 54, 3))], [(753, (.iconst 0, 1)), (754, (.ireturn, 1)), (755, (.aload_n 1, 1)), (756, (.invokevirtual 117, 3)), (759, (.aload_n 2, 1)), (760, (.invokevirtual 120, 3)), (763, (.if_icmp .eq 41, 3)), (766, (.iconst 0, 1)), (767, (.ireturn, 1))], [(768, (.aload_n 1, 1)), (769, (.invokevirtual 121, 3)), (772, (.aload_n 2, 1)), (773, (.invokevirtual 124, 3)), (776, (.if_icmp .eq 28, 3)), (779, (.iconst 0, 1)), (780, (.ireturn, 1)), (781, (.aload_n 1, 1)), (782, (.aload_n 0, 1)), (783, (.iload_n 3, 1))], [(784, (.iconst 1, 1)), (785, (.iadd, 1)), (786, (.iaload, 1)), (787, (.invokevirtual 125, 3)), (790, (.aload_n 2, 1)), (791, (.aload_n 0, 1)), (792, (.iload_n 3, 1)), (793, (.iconst 1, 1)), (794, (.iadd, 1)), (795, (.iaload, 1)), (796, (.invokevirtual 128, 3)), (799, (.if_icmp .eq 5, 3))], [(802, (.iconst 0, 1)), (803, (.ireturn, 1)), (804, (.iinc 3 4, 3)), (807, (.goto (-789), 3)), (810, (.iconst 1, 1)), (811, (.ireturn, 1))]]
/-- Object.init ()V -/
def jc198 : jCode := [[(0, (.return_, 1))]]
def jCodeT : List (jCode) := [jc0, jc1, jc2, jc3, jc4, jc5, jc6, jc7, jc8, jc9, jc10, jc11, jc12, jc13, jc14, jc15, jc16, jc17, jc18, jc19, jc20, jc21, jc22, jc23, jc24, jc25, jc26, jc27, jc28, jc29, jc30, jc31, jc32, jc33, jc34, jc35, jc36, jc37, jc38, jc39, jc40, jc41, jc42, jc43, jc44, jc45, jc46, jc47, jc48, jc49, jc50, jc51, jc52, jc53, jc54, jc55, jc56, jc57, jc58, jc59, jc60, jc61, jc62, jc63, jc64, jc65, jc66, jc67, jc68, jc69, jc70, jc71, jc72, jc73, jc74, jc75, jc76, jc77, jc78, jc79, jc80, jc81, jc82, jc83, jc84, jc85, jc86, jc87, jc88, jc89, jc90, jc91, jc92, jc93, jc94, jc95, jc96, jc97, jc98, jc99, jc100, jc101, jc102, jc103, jc104, jc105, jc106, jc107, jc108, jc109, jc110, jc111, jc112, jc113, jc114, jc115, jc116, jc117, jc118, jc119, jc120, jc121, jc122, jc123, jc124, jc125, jc126, jc127, jc128, jc129, jc130, jc131, jc132, jc133, jc134, jc135, jc136, jc137, jc138, jc139, jc140, jc141, jc142, jc143, jc144, jc145, jc146, jc147, jc148, jc149, jc150, jc151, jc152, jc153, jc154, jc155, jc156, jc157, jc158, jc159, jc160, jc161, jc162, jc163, jc164, jc165, jc166, jc167, jc168, jc169, jc170, jc171, jc172, jc173, jc174, jc175, jc176, jc177, jc178, jc179, jc180, jc181, jc182, jc183, jc184, jc185, jc186, jc187, jc188, jc189, jc190, jc191, jc192, jc193, jc194, jc195, jc196, jc197, jc198]
def jBytesT : List (ByteArray) := [cX0_init, cX0_weigh, cX0_weightOf, cX0_canCough, cX0_commonDivisor, cX0_playSeason, cX0_takeDraw, cX1_init, cX1_empty, cX1_copy, cX1_tellScene, cX1_tellSeat, cX1_isScene, cX1_isSeat, cX1_placeOnBill, cX1_placeInLine, cX1_isBilled, cX1_mount, cX1_strike, cX1_trade, cX1_canEngage, cX1_engage, cX1_claqueurs, cX1_bindings, cX1_clauseBit, cX1_canOpen, cX1_settle, cX1_tire, cX1_bindAll, cX1_bind, cX2_init, cX2_push, cX2_pop, cX3_init, cX3_find, cX3_patientAlone, cX3_tryLine, cX3_nextLine, cX4_init, cX4_begin, cX4_copy, cX4_unfold, cX4_stage, cX4_carries, cX4_watch, cX4_leave, cX4_bore, cX4_isDrivenOut, cX5_init, cX5_fewestClaques, cX5_fatalCut, cX5_nightsAhead, cX5_findAddition, cX5_tryAddition, cX5_fittingPatiences, cX5_fittingTastes, cX5_trialAgrees, cX5_trialPasses, cX6_init, cX6_at, cX6_put, cX6_placeOf, cX6_trade, cX6_insert, cX6_remove, cX6_clear, cX6_numberThrough, cX6_copy, cX7_init, cX7_find, cX7_extend, cX7_endures, cX7_evening, cX7_bindable, cX7_note, cX8_init, cX8_note, cX8_agree, cX9_init, cX9_append, cX9_read, cX9_readItem, cX9_readScene, cX9_readSeat, cX9_readBill, cX9_readTill, cX9_number, cX9_next, cX9_figure, cX10_init, cX10_write, cX10_wipe, cX10_fault, cX10_lay, cX10_scene, cX10_seat, cX10_tonight, cX10_passes, cX10_add, cX10_cut, cX10_play, cX10_swap, cX10_hire, cX10_undo, cX10_soonest, cX10_seating, cX10_claques, cX10_falls, cX10_run, cX10_most, cX10_see, cX10_forget, cX10_fits, cX10_coughs, cX10_season, cX10_keep, cX10_back, cX10_count, cX10_open, cX10_remember, cX10_within, cX10_isIn, cX11_init, cX11_in, cX11_write, cX11_wipe, cX11_here, cX11_isFigure, cX11_due, cX11_number, cX11_readScene, cX11_readSeat, cX11_readBill, cX11_readItem, cX11_read, cX11_fault, cX11_tellScene, cX11_chair, cX11_onBill, cX11_first, cX11_takeDraft, cX11_lay, cX11_take, cX11_isScene, cX11_isSeat, cX11_placeOn, cX11_placeIn, cX11_bitsOf, cX11_claquesOf, cX11_boundOf, cX11_isGone, cX11_bore, cX11_canLeave, cX11_settle, cX11_go, cX11_doesPass, cX11_bind, cX11_canPlay, cX11_playOn, cX11_scene, cX11_seat, cX11_tonight, cX11_passes, cX11_know, cX11_putOn, cX11_takeOff, cX11_change, cX11_canHire, cX11_hireFor, cX11_add, cX11_cut, cX11_play, cX11_swap, cX11_hire, cX11_undo, cX11_clausesTried, cX11_minutesTried, cX11_nextBill, cX11_soonest, cX11_nextRow, cX11_seating, cX11_claques, cX11_falls, cX11_run, cX11_most, cX11_see, cX11_forget, cX11_isSo, cX11_fits, cX11_coughs, cX11_turn, cX11_season, cX11_keep, cX11_back, cX11_count, cJ6_bitCount_0f7a4, cJ7_fill_53178, cL_law, jObjCode]
def jYT : List (MethodName) := [yX0_init, yX0_weigh, yX0_weightOf, yX0_canCough, yX0_commonDivisor, yX0_playSeason, yX0_takeDraw, yX1_init, yX1_empty, yX1_copy, yX1_tellScene, yX1_tellSeat, yX1_isScene, yX1_isSeat, yX1_placeOnBill, yX1_placeInLine, yX1_isBilled, yX1_mount, yX1_strike, yX1_trade, yX1_canEngage, yX1_engage, yX1_claqueurs, yX1_bindings, yX1_clauseBit, yX1_canOpen, yX1_settle, yX1_tire, yX1_bindAll, yX1_bind, yX2_init, yX2_push, yX2_pop, yX3_init, yX3_find, yX3_patientAlone, yX3_tryLine, yX3_nextLine, yX4_init, yX4_begin, yX4_copy, yX4_unfold, yX4_stage, yX4_carries, yX4_watch, yX4_leave, yX4_bore, yX4_isDrivenOut, yX5_init, yX5_fewestClaques, yX5_fatalCut, yX5_nightsAhead, yX5_findAddition, yX5_tryAddition, yX5_fittingPatiences, yX5_fittingTastes, yX5_trialAgrees, yX5_trialPasses, yX6_init, yX6_at, yX6_put, yX6_placeOf, yX6_trade, yX6_insert, yX6_remove, yX6_clear, yX6_numberThrough, yX6_copy, yX7_init, yX7_find, yX7_extend, yX7_endures, yX7_evening, yX7_bindable, yX7_note, yX8_init, yX8_note, yX8_agree, yX9_init, yX9_append, yX9_read, yX9_readItem, yX9_readScene, yX9_readSeat, yX9_readBill, yX9_readTill, yX9_number, yX9_next, yX9_figure, yX10_init, yX10_write, yX10_wipe, yX10_fault, yX10_lay, yX10_scene, yX10_seat, yX10_tonight, yX10_passes, yX10_add, yX10_cut, yX10_play, yX10_swap, yX10_hire, yX10_undo, yX10_soonest, yX10_seating, yX10_claques, yX10_falls, yX10_run, yX10_most, yX10_see, yX10_forget, yX10_fits, yX10_coughs, yX10_season, yX10_keep, yX10_back, yX10_count, yX10_open, yX10_remember, yX10_within, yX10_isIn, yX11_init, yX11_in, yX11_write, yX11_wipe, yX11_here, yX11_isFigure, yX11_due, yX11_number, yX11_readScene, yX11_readSeat, yX11_readBill, yX11_readItem, yX11_read, yX11_fault, yX11_tellScene, yX11_chair, yX11_onBill, yX11_first, yX11_takeDraft, yX11_lay, yX11_take, yX11_isScene, yX11_isSeat, yX11_placeOn, yX11_placeIn, yX11_bitsOf, yX11_claquesOf, yX11_boundOf, yX11_isGone, yX11_bore, yX11_canLeave, yX11_settle, yX11_go, yX11_doesPass, yX11_bind, yX11_canPlay, yX11_playOn, yX11_scene, yX11_seat, yX11_tonight, yX11_passes, yX11_know, yX11_putOn, yX11_takeOff, yX11_change, yX11_canHire, yX11_hireFor, yX11_add, yX11_cut, yX11_play, yX11_swap, yX11_hire, yX11_undo, yX11_clausesTried, yX11_minutesTried, yX11_nextBill, yX11_soonest, yX11_nextRow, yX11_seating, yX11_claques, yX11_falls, yX11_run, yX11_most, yX11_see, yX11_forget, yX11_isSo, yX11_fits, yX11_coughs, yX11_turn, yX11_season, yX11_keep, yX11_back, yX11_count, yJ6_bitCount_0f7a4, yJ7_fill_53178, yL_law, objectInit]
def jMaxT : List (Nat) := [1, 5, 6, 3, 6, 7, 5, 1, 1, 2, 4, 4, 2, 2, 2, 2, 2, 3, 2, 3, 2, 2, 3, 3, 3, 1, 4, 3, 6, 4, 3, 3, 4, 1, 6, 4, 2, 6, 1, 1, 2, 4, 5, 2, 4, 4, 8, 6, 1, 6, 3, 3, 4, 5, 6, 6, 3, 1, 2, 2, 3, 4, 4, 5, 4, 1, 2, 2, 2, 4, 8, 5, 2, 2, 3, 1, 3, 4, 1, 2, 3, 1, 4, 4, 4, 2, 6, 2, 1, 2, 2, 2, 1, 1, 3, 3, 3, 2, 2, 2, 1, 3, 2, 1, 3, 2, 3, 1, 1, 2, 3, 2, 3, 3, 4, 1, 1, 2, 2, 1, 3, 2, 1, 3, 2, 2, 1, 1, 2, 5, 2, 1, 3, 2, 2, 1, 4, 4, 2, 1, 2, 1, 2, 2, 2, 4, 4, 3, 4, 4, 3, 6, 3, 6, 5, 2, 6, 2, 5, 3, 3, 3, 2, 2, 4, 3, 6, 2, 2, 2, 3, 1, 3, 2, 2, 4, 3, 2, 7, 6, 6, 5, 3, 3, 7, 3, 2, 5, 7, 9, 6, 8, 2, 2, 2, 1, 4, 4, 1]
def jRetT : List (Option FieldType) := [none, none, some .int, some .boolean, some .int, none, none, none, none, none, some .boolean, some .boolean, some .boolean, some .boolean, some .int, some .int, some .boolean, none, none, none, some .boolean, none, some .int, some .int, some .int, some .boolean, none, none, none, none, none, none, none, none, none, some .int, none, some .boolean, none, none, none, none, none, some .boolean, none, none, none, some .boolean, none, some .int, some .int, some .int, none, none, some .int, some .int, some .boolean, some .boolean, none, some .int, none, some .int, none, none, none, none, none, none, none, none, none, some .boolean, some (.object "PlayedLaws$Night"), some .int, none, none, some .boolean, some .boolean, none, some .boolean, some .int, some .boolean, some .boolean, some .boolean, some .boolean, some .boolean, some .int, some .int, some .int, none, some .int, some .int, some .int, some .int, some .int, some .int, some .int, some .int, some .int, some .int, some .int, some .int, some .int, some .int, some .int, some .int, some .int, some .int, some .int, some .int, some .int, some .int, some .int, some .int, some .int, some .int, some .int, some .int, none, none, some .boolean, some .boolean, none, some .boolean, some .int, some .int, some .int, some .boolean, none, some .int, none, none, none, none, some .int, some .int, none, none, none, none, none, some .int, none, some .boolean, some .boolean, some .int, some .int, some .int, some .int, some .int, some .boolean, none, some .boolean, none, some .int, some .boolean, none, some .boolean, some .boolean, some .int, some .int, some .int, some .int, none, none, none, none, some .boolean, none, some .int, some .int, some .int, some .int, some .int, some .int, some .int, some .int, some .boolean, some .int, some .boolean, some .int, some .int, some .int, some .int, some .int, some .int, some .int, some .boolean, some .int, some .int, some .int, some .int, some .int, some .int, some .int, some .int, none, some .boolean, none]
def jOwnT : List (Nat) := [0, 0, 0, 0, 0, 0, 0, 1, 1, 1, 1, 1, 1, 1, 1, 1, 1, 1, 1, 1, 1, 1, 1, 1, 1, 1, 1, 1, 1, 1, 2, 2, 2, 3, 3, 3, 3, 3, 4, 4, 4, 4, 4, 4, 4, 4, 4, 4, 5, 5, 5, 5, 5, 5, 5, 5, 5, 5, 6, 6, 6, 6, 6, 6, 6, 6, 6, 6, 7, 7, 7, 7, 7, 7, 7, 8, 8, 8, 9, 9, 9, 9, 9, 9, 9, 9, 9, 9, 9, 10, 10, 10, 10, 10, 10, 10, 10, 10, 10, 10, 10, 10, 10, 10, 10, 10, 10, 10, 10, 10, 10, 10, 10, 10, 10, 10, 10, 10, 10, 10, 10, 10, 11, 11, 11, 11, 11, 11, 11, 11, 11, 11, 11, 11, 11, 11, 11, 11, 11, 11, 11, 11, 11, 11, 11, 11, 11, 11, 11, 11, 11, 11, 11, 11, 11, 11, 11, 11, 11, 11, 11, 11, 11, 11, 11, 11, 11, 11, 11, 11, 11, 11, 11, 11, 11, 11, 11, 11, 11, 11, 11, 11, 11, 11, 11, 11, 11, 11, 11, 11, 11, 11, 11, 11, 11, 13, 14, 12, 15]
def jParT : List (Nat) := [0, 2, 3, 2, 2, 3, 1, 0, 0, 1, 3, 3, 1, 1, 1, 1, 1, 2, 1, 2, 1, 1, 0, 0, 1, 0, 1, 0, 1, 3, 1, 1, 1, 0, 2, 1, 0, 0, 0, 0, 1, 2, 3, 1, 2, 3, 3, 2, 0, 1, 1, 1, 1, 3, 3, 3, 2, 0, 1, 1, 2, 2, 2, 3, 2, 0, 0, 1, 0, 3, 5, 2, 1, 1, 2, 0, 2, 2, 0, 1, 0, 0, 0, 0, 0, 0, 3, 0, 1, 0, 1, 0, 0, 0, 2, 2, 2, 1, 1, 1, 0, 2, 1, 0, 2, 1, 1, 0, 0, 1, 2, 0, 2, 2, 3, 0, 0, 1, 1, 0, 3, 2, 0, 3, 1, 0, 0, 0, 1, 2, 0, 0, 0, 0, 0, 0, 3, 3, 1, 0, 0, 0, 0, 1, 1, 2, 2, 1, 1, 1, 2, 3, 2, 3, 1, 1, 1, 1, 1, 2, 2, 2, 1, 0, 3, 2, 3, 2, 2, 1, 1, 0, 2, 1, 0, 0, 0, 0, 2, 0, 1, 1, 0, 0, 1, 2, 0, 1, 2, 2, 1, 3, 0, 0, 1, 1, 2, 1, 0]
def jStatT : List (Bool) := [false, false, true, true, true, false, false, false, false, false, false, false, false, false, false, false, false, false, false, false, false, false, false, false, false, false, false, false, false, false, false, false, false, false, false, false, false, false, false, false, false, false, false, false, false, false, false, false, false, false, false, false, false, false, false, false, false, false, false, false, false, false, false, false, false, false, false, false, false, false, true, false, false, false, false, false, false, false, false, false, false, false, false, false, false, false, false, false, true, false, false, false, false, false, false, false, false, false, false, false, false, false, false, false, false, false, false, false, false, false, false, false, false, false, false, false, false, false, false, false, true, true, false, true, false, false, false, false, false, false, false, false, false, false, false, false, false, false, false, false, false, false, false, false, false, true, false, true, false, false, false, false, false, false, false, false, false, false, false, false, false, false, false, false, true, true, false, true, true, false, false, false, false, false, false, false, false, false, false, false, false, false, false, false, false, false, false, false, false, false, false, false, false, false, false, true, true, true, false]
def jInitT : List (Bool) := [true, false, false, false, false, false, false, true, false, false, false, false, false, false, false, false, false, false, false, false, false, false, false, false, false, false, false, false, false, false, true, false, false, true, false, false, false, false, true, false, false, false, false, false, false, false, false, false, true, false, false, false, false, false, false, false, false, false, true, false, false, false, false, false, false, false, false, false, true, false, false, false, false, false, false, true, false, false, true, false, false, false, false, false, false, false, false, false, false, true, false, false, false, false, false, false, false, false, false, false, false, false, false, false, false, false, false, false, false, false, false, false, false, false, false, false, false, false, false, false, false, false, true, false, false, false, false, false, false, false, false, false, false, false, false, false, false, false, false, false, false, false, false, false, false, false, false, false, false, false, false, false, false, false, false, false, false, false, false, false, false, false, false, false, false, false, false, false, false, false, false, false, false, false, false, false, false, false, false, false, false, false, false, false, false, false, false, false, false, false, false, false, false, false, false, false, false, false, true]
def jLongT : List (List Nat) := [[], [], [], [], [], [5], [], [], [], [], [], [], [], [], [], [], [], [], [], [], [], [], [], [], [], [], [], [], [], [], [], [], [], [], [], [], [], [], [], [], [], [], [], [], [], [], [], [], [], [], [], [], [], [], [], [], [], [], [], [], [], [], [], [], [], [], [], [], [], [], [], [], [], [], [], [], [], [], [], [], [], [], [], [], [], [], [], [], [], [], [], [], [], [], [], [], [], [], [], [], [], [], [], [], [], [], [], [], [], [], [], [], [], [], [], [], [], [], [], [], [], [], [], [], [], [], [], [], [], [], [], [], [], [], [], [], [], [], [], [], [], [], [], [], [], [], [], [], [], [], [], [], [], [], [], [], [], [], [], [], [], [], [], [], [], [], [], [], [], [], [], [], [], [], [], [], [], [], [], [], [], [], [], [], [], [], [], [], [], [], [], [6], [], [], [], [], [], [], []]
def jROwn : List (String) := [RX0, RX1, RX2, RX3, RX4, RX5, RX6, RX7, RX8, RX9, RX10, RX11, RL, RJ6, RJ7, "java/lang/Object"]
def jTX : List (u_T) := [TX0, TX1, TX2, TX3, TX4, TX5, TX6, TX7, TX8, TX9, TX10, TX11]
def jTyX : List (Nat → FieldType) := [tyX0, tyX1, tyX2, tyX3, tyX4, tyX5, tyX6, tyX7, tyX8, tyX9, tyX10, tyX11]
def jNT : List (Nat) := [4, 16, 3, 5, 6, 4, 1, 7, 3, 4, 11, 30]
def jIsRefT : List (List Bool) := [[true, true, false, false], [true, true, true, true, true, true, true, true, true, true, false, false, false, false, false, false], [true, false, false], [true, true, true, false, false], [true, true, true, true, true, false], [true, true, false, false], [true], [true, true, true, false, false, false, false], [true, true, false], [true, true, false, false], [true, true, true, true, true, true, true, true, true, true, false], [true, false, true, true, true, true, true, true, true, true, true, false, false, false, false, true, true, false, true, false, true, true, true, true, true, false, true, true, true, false]]
def jFldT : List (List (Nat × (Nat × Nat))) := [[(12, (0, 0)), (21, (0, 1)), (25, (0, 2)), (29, (0, 3)), (32, (1, 11)), (59, (1, 5)), (83, (1, 10)), (90, (1, 12))], [(14, (1, 0)), (20, (1, 1)), (23, (1, 2)), (26, (1, 3)), (29, (1, 4)), (32, (1, 5)), (35, (1, 6)), (38, (1, 7)), (41, (1, 8)), (44, (1, 9)), (53, (1, 10)), (57, (1, 11)), (60, (1, 12)), (63, (1, 13)), (66, (1, 14)), (69, (1, 15)), (127, (4, 5)), (141, (4, 3))], [(9, (2, 0)), (16, (2, 1)), (24, (2, 2))], [(12, (3, 0)), (21, (3, 1)), (30, (3, 2)), (34, (3, 4)), (46, (1, 9)), (52, (3, 3)), (62, (1, 11)), (73, (4, 5))], [(14, (4, 0)), (20, (4, 1)), (23, (4, 2)), (26, (4, 3)), (29, (4, 4)), (35, (4, 5)), (46, (1, 12)), (59, (1, 11)), (62, (1, 9)), (76, (1, 4)), (90, (1, 1)), (93, (1, 5)), (96, (1, 6)), (99, (1, 0)), (108, (1, 3)), (114, (1, 7))], [(12, (5, 0)), (21, (5, 1)), (25, (1, 11)), (43, (1, 5)), (57, (1, 10)), (71, (5, 2)), (74, (5, 3)), (77, (1, 12)), (103, (1, 7)), (110, (1, 6)), (113, (4, 1))], [(9, (6, 0))], [(12, (7, 0)), (20, (7, 1)), (29, (7, 2)), (33, (7, 6)), (38, (7, 5)), (45, (7, 3)), (48, (7, 4)), (55, (1, 10)), (58, (1, 1)), (82, (1, 4)), (88, (1, 12)), (102, (1, 0))], [(14, (8, 0)), (20, (8, 1)), (23, (8, 2))], [(14, (9, 0)), (23, (9, 1)), (27, (9, 2)), (38, (9, 3)), (72, (1, 12)), (89, (1, 13))], [(12, (10, 0)), (19, (10, 1)), (28, (10, 2)), (32, (10, 3)), (38, (10, 4)), (45, (10, 5)), (52, (10, 6)), (59, (10, 7)), (66, (10, 8)), (73, (10, 9)), (96, (9, 1)), (103, (9, 2)), (110, (1, 10)), (113, (1, 11)), (119, (1, 0)), (129, (1, 1)), (132, (1, 2)), (138, (1, 3)), (144, (1, 5)), (147, (1, 6)), (150, (1, 7)), (156, (1, 8)), (163, (4, 1)), (166, (4, 3)), (169, (4, 0)), (172, (4, 5)), (185, (1, 12)), (212, (1, 13)), (215, (2, 2)), (221, (10, 10)), (228, (7, 3)), (229, (7, 4)), (231, (7, 2)), (236, (3, 3)), (239, (3, 2)), (258, (5, 2)), (261, (5, 3)), (268, (8, 2)), (281, (0, 2)), (284, (0, 3)), (290, (0, 0)), (293, (1, 15)), (302, (1, 14))], [(7, (11, 0)), (13, (11, 2)), (17, (11, 3)), (20, (11, 4)), (23, (11, 5)), (26, (11, 6)), (29, (11, 7)), (32, (11, 8)), (35, (11, 9)), (38, (11, 10)), (41, (11, 15)), (44, (11, 16)), (47, (11, 18)), (50, (11, 20)), (53, (11, 21)), (56, (11, 22)), (59, (11, 23)), (63, (11, 24)), (66, (11, 26)), (69, (11, 27)), (72, (11, 28)), (85, (11, 1)), (89, (11, 13)), (96, (11, 14)), (112, (11, 11)), (124, (11, 12)), (143, (11, 17)), (146, (11, 19)), (149, (11, 29)), (163, (11, 25))], [], [], [], []]
def jMthT : List (List (Nat × Nat)) := [[(3, 198), (11, 7), (20, 38), (35, 3), (39, 2), (43, 41), (47, 43), (51, 4), (55, 121), (63, 59), (69, 9), (79, 6), (86, 16), (93, 17), (97, 18), (100, 19), (103, 20), (106, 21), (109, 25), (113, 26)], [(3, 198), (11, 58), (47, 65), (50, 66), (72, 67), (76, 60), (80, 120), (84, 61), (88, 63), (92, 14), (96, 64), (99, 15), (102, 62), (105, 59), (108, 195), (113, 22), (117, 43), (123, 28), (130, 904), (135, 27), (138, 24), (144, 121), (148, 29)], [(1, 198), (15, 7), (20, 9), (27, 904)], [(3, 198), (11, 7), (20, 38), (27, 58), (38, 35), (42, 9), (49, 66), (55, 36), (58, 37), (65, 60), (69, 41), (76, 67), (79, 59), (83, 62)], [(3, 198), (11, 58), (32, 65), (39, 67), (43, 39), (51, 42), (55, 44), (65, 59), (69, 121), (73, 45), (79, 46), (82, 47), (86, 60), (102, 903), (111, 904)], [(3, 198), (11, 7), (20, 38), (29, 195), (35, 9), (39, 121), (47, 60), (53, 57), (60, 16), (64, 18), (68, 27), (80, 53), (84, 17), (87, 41), (91, 43), (95, 28), (99, 23), (106, 56), (116, 59), (119, 77)], [(3, 198), (15, 59), (19, 60), (23, 196), (29, 904), (35, 900)], [(3, 198), (11, 7), (26, 58), (37, 38), (41, 9), (51, 70), (60, 59), (64, 121), (68, 71), (71, 73), (74, 74), (78, 72), (85, 60), (91, 40), (94, 42), (98, 43), (105, 24), (108, 67)], [(3, 198), (11, 58), (27, 60), (31, 59)], [(3, 198), (11, 58), (22, 7), (31, 60), (35, 8), (41, 81), (45, 87), (49, 82), (52, 83), (55, 84), (58, 85), (61, 86), (65, 10), (69, 11), (75, 88), (79, 12), (83, 16), (86, 17), (92, 120), (95, 59)], [(3, 198), (11, 78), (18, 7), (25, 30), (37, 75), (44, 38), (51, 68), (58, 33), (65, 48), (72, 0), (79, 901), (85, 902), (89, 79), (93, 80), (99, 118), (106, 120), (116, 12), (123, 59), (135, 14), (141, 13), (153, 15), (159, 41), (175, 43), (179, 16), (182, 119), (188, 17), (192, 18), (195, 25), (199, 26), (203, 19), (206, 20), (209, 21), (218, 32), (224, 69), (234, 34), (240, 49), (244, 195), (249, 50), (252, 51), (255, 52), (264, 76), (271, 54), (275, 55), (278, 1), (287, 5), (296, 23), (299, 31), (305, 22), (308, 9)], [(1, 198), (75, 139), (78, 140), (81, 123), (92, 126), (100, 127), (104, 129), (108, 128), (115, 130), (118, 131), (121, 132), (127, 133), (130, 134), (133, 136), (137, 137), (140, 138), (152, 147), (156, 150), (160, 152), (166, 151), (170, 153), (173, 154), (177, 148), (180, 155), (184, 156), (188, 143), (192, 145), (196, 144), (199, 146), (202, 163), (205, 164), (208, 165), (212, 157), (215, 158), (218, 166), (221, 167), (224, 168), (227, 142), (230, 177), (233, 176), (236, 175), (239, 179), (242, 149), (245, 187), (254, 190)], [(9, 89), (12, 122), (13, 90), (17, 124), (18, 91), (22, 125), (23, 92), (26, 135), (27, 93), (30, 141), (31, 94), (35, 159), (36, 95), (39, 160), (40, 96), (43, 161), (44, 97), (47, 162), (48, 98), (51, 169), (52, 99), (55, 170), (56, 100), (59, 171), (60, 101), (63, 172), (64, 102), (67, 173), (68, 103), (71, 174), (72, 104), (75, 178), (76, 105), (79, 180), (80, 106), (83, 181), (84, 107), (87, 182), (88, 108), (91, 183), (92, 109), (95, 184), (96, 110), (99, 185), (100, 111), (103, 186), (104, 112), (107, 188), (108, 113), (111, 189), (112, 114), (116, 191), (117, 115), (120, 192), (121, 116), (124, 193), (125, 117), (128, 194)], [], [], []]
def jClsT : List (List (Nat × Nat)) := [[(9, 1), (18, 4)], [(9, 6)], [(7, 1)], [(9, 1), (18, 4), (25, 6)], [(9, 6)], [(9, 1), (18, 4)], [], [(9, 1), (18, 4), (24, 6)], [(9, 6)], [(9, 6), (20, 1)], [(9, 9), (16, 1), (23, 2), (35, 8), (42, 4), (49, 7), (56, 3), (63, 5), (70, 0)], [], [(7, 10), (10, 11)], [], [], []]
def jCstT : List (List (Nat × Int32)) := [[], [], [], [], [], [], [], [], [], [], [], [], [], [(265, 1431655765), (266, 858993459), (267, 252645135)], [], []]
def jLngT : List (List (Nat × Int64)) := [[(73, 7919), (75, 6151), (77, 65521)], [], [], [], [], [], [], [], [], [], [], [(248, 7919), (250, 6151), (252, 65521)], [], [], [], []]
def jStrT : List (List (Nat × Unit)) := [[], [], [], [], [], [], [], [], [], [], [(77, ())], [], [], [], [], []]
/-- what a reference field (or a place of an array of objects) holds once it is laid -/
def jrf (k : Nat) (a : jA) (s : Nat) : jR := match k with
  | 0 => match s with
    | 0 => (1, (0, 15))
    | _ => (4, (0, 11))
  | 1 => (6, (s, a.2))
  | 2 => (15, a)
  | 3 => match s with
    | 0 => (1, (0, 13))
    | 1 => (4, (0, 9))
    | _ => (6, (34, 0))
  | 4 => (6, (16 + s, a.2))
  | 5 => match s with
    | 0 => (1, (0, 14))
    | _ => (4, (0, 10))
  | 6 => (12, a)
  | 7 => match s with
    | 0 => (1, (0, 12))
    | 1 => (16, (0, 0))
    | _ => (6, (33, 0))
  | 8 => match s with
    | 0 => (6, (31, 0))
    | _ => (6, (32, 0))
  | 9 => match s with
    | 0 => (6, (30, 0))
    | _ => (1, (0, 0))
  | 10 => match s with
    | 0 => (9, (0, 0))
    | 1 => (1, (0, 1))
    | 2 => (2, (0, 0))
    | 3 => (2, (0, 1))
    | 4 => (8, (0, 0))
    | 5 => (4, (0, 0))
    | 6 => (7, (0, 0))
    | 7 => (3, (0, 0))
    | 8 => (5, (0, 0))
    | _ => (0, (0, 0))
  | 11 => (if s = 0 then 14 else if s = 23 then 13 else 12, (40 + s, 0))
  | 15 => (1, (0, (if a.2 = 0 then 2 else 10) + s))
  | 16 => (4, (0, 1 + s))
  | _ => (99, (0, 0))
def jLenT : List Nat := [200, 6, 6, 7, 7, 0, 0, 0, 0, 0, 200, 0, 2, 14, 14, 14, 2, 7, 14, 14, 7, 0, 0, 0, 0, 39, 312, 0, 78, 0, 39, 7, 7, 7, 7, 0, 7, 6, 6, 0]
/-- how long an array is -/
def jLen (k : Nat) (a : jA) : Nat := match k with
  | 12 => if a.1 < 30 then 7 else jLenT.getD (a.1 - 30) 0
  | 13 => 7
  | 14 => 200
  | 15 => if a.2 = 0 then 8 else 2
  | 16 => 8
  | _ => 0
/-- every object and array, in the order in which they are made -/
def jRefs0 : List jR := [(10, (0, 0)), (9, (0, 0)), (6, (30, 0)), (12, (30, 0)), (1, (0, 0)), (6, (0, 0)), (12, (0, 0)), (6, (1, 0)), (12, (1, 0)), (6, (2, 0)), (12, (2, 0)), (6, (3, 0)), (12, (3, 0)), (6, (4, 0)), (12, (4, 0)), (6, (5, 0)), (12, (5, 0)), (6, (6, 0)), (12, (6, 0)), (6, (7, 0)), (12, (7, 0)), (6, (8, 0)), (12, (8, 0)), (6, (9, 0)), (12, (9, 0)), (1, (0, 1)), (6, (0, 1)), (12, (0, 1)), (6, (1, 1)), (12, (1, 1)), (6, (2, 1)), (12, (2, 1)), (6, (3, 1)), (12, (3, 1)), (6, (4, 1)), (12, (4, 1)), (6, (5, 1)), (12, (5, 1)), (6, (6, 1)), (12, (6, 1)), (6, (7, 1)), (12, (7, 1)), (6, (8, 1)), (12, (8, 1)), (6, (9, 1)), (12, (9, 1)), (2, (0, 0)), (15, (0, 0)), (1, (0, 2)), (6, (0, 2)), (12, (0, 2)), (6, (1, 2)), (12, (1, 2)), (6, (2, 2)), (12, (2, 2)), (6, (3, 2)), (12, (3, 2)), (6, (4, 2)), (12, (4, 2)), (6, (5, 2)), (12, (5, 2)), (6, (6, 2)), (12, (6, 2)), (6, (7, 2))]
def jRefs1 : List jR := [(12, (7, 2)), (6, (8, 2)), (12, (8, 2)), (6, (9, 2)), (12, (9, 2)), (1, (0, 3)), (6, (0, 3)), (12, (0, 3)), (6, (1, 3)), (12, (1, 3)), (6, (2, 3)), (12, (2, 3)), (6, (3, 3)), (12, (3, 3)), (6, (4, 3)), (12, (4, 3)), (6, (5, 3)), (12, (5, 3)), (6, (6, 3)), (12, (6, 3)), (6, (7, 3)), (12, (7, 3)), (6, (8, 3)), (12, (8, 3)), (6, (9, 3)), (12, (9, 3)), (1, (0, 4)), (6, (0, 4)), (12, (0, 4)), (6, (1, 4)), (12, (1, 4)), (6, (2, 4)), (12, (2, 4)), (6, (3, 4)), (12, (3, 4)), (6, (4, 4)), (12, (4, 4)), (6, (5, 4)), (12, (5, 4)), (6, (6, 4)), (12, (6, 4)), (6, (7, 4)), (12, (7, 4)), (6, (8, 4)), (12, (8, 4)), (6, (9, 4)), (12, (9, 4)), (1, (0, 5)), (6, (0, 5)), (12, (0, 5)), (6, (1, 5)), (12, (1, 5)), (6, (2, 5)), (12, (2, 5)), (6, (3, 5)), (12, (3, 5)), (6, (4, 5)), (12, (4, 5)), (6, (5, 5)), (12, (5, 5)), (6, (6, 5)), (12, (6, 5)), (6, (7, 5)), (12, (7, 5))]
def jRefs2 : List jR := [(6, (8, 5)), (12, (8, 5)), (6, (9, 5)), (12, (9, 5)), (1, (0, 6)), (6, (0, 6)), (12, (0, 6)), (6, (1, 6)), (12, (1, 6)), (6, (2, 6)), (12, (2, 6)), (6, (3, 6)), (12, (3, 6)), (6, (4, 6)), (12, (4, 6)), (6, (5, 6)), (12, (5, 6)), (6, (6, 6)), (12, (6, 6)), (6, (7, 6)), (12, (7, 6)), (6, (8, 6)), (12, (8, 6)), (6, (9, 6)), (12, (9, 6)), (1, (0, 7)), (6, (0, 7)), (12, (0, 7)), (6, (1, 7)), (12, (1, 7)), (6, (2, 7)), (12, (2, 7)), (6, (3, 7)), (12, (3, 7)), (6, (4, 7)), (12, (4, 7)), (6, (5, 7)), (12, (5, 7)), (6, (6, 7)), (12, (6, 7)), (6, (7, 7)), (12, (7, 7)), (6, (8, 7)), (12, (8, 7)), (6, (9, 7)), (12, (9, 7)), (1, (0, 8)), (6, (0, 8)), (12, (0, 8)), (6, (1, 8)), (12, (1, 8)), (6, (2, 8)), (12, (2, 8)), (6, (3, 8)), (12, (3, 8)), (6, (4, 8)), (12, (4, 8)), (6, (5, 8)), (12, (5, 8)), (6, (6, 8)), (12, (6, 8)), (6, (7, 8)), (12, (7, 8)), (6, (8, 8))]
def jRefs3 : List jR := [(12, (8, 8)), (6, (9, 8)), (12, (9, 8)), (1, (0, 9)), (6, (0, 9)), (12, (0, 9)), (6, (1, 9)), (12, (1, 9)), (6, (2, 9)), (12, (2, 9)), (6, (3, 9)), (12, (3, 9)), (6, (4, 9)), (12, (4, 9)), (6, (5, 9)), (12, (5, 9)), (6, (6, 9)), (12, (6, 9)), (6, (7, 9)), (12, (7, 9)), (6, (8, 9)), (12, (8, 9)), (6, (9, 9)), (12, (9, 9)), (2, (0, 1)), (15, (0, 1)), (1, (0, 10)), (6, (0, 10)), (12, (0, 10)), (6, (1, 10)), (12, (1, 10)), (6, (2, 10)), (12, (2, 10)), (6, (3, 10)), (12, (3, 10)), (6, (4, 10)), (12, (4, 10)), (6, (5, 10)), (12, (5, 10)), (6, (6, 10)), (12, (6, 10)), (6, (7, 10)), (12, (7, 10)), (6, (8, 10)), (12, (8, 10)), (6, (9, 10)), (12, (9, 10)), (1, (0, 11)), (6, (0, 11)), (12, (0, 11)), (6, (1, 11)), (12, (1, 11)), (6, (2, 11)), (12, (2, 11)), (6, (3, 11)), (12, (3, 11)), (6, (4, 11)), (12, (4, 11)), (6, (5, 11)), (12, (5, 11)), (6, (6, 11)), (12, (6, 11)), (6, (7, 11)), (12, (7, 11))]
def jRefs4 : List jR := [(6, (8, 11)), (12, (8, 11)), (6, (9, 11)), (12, (9, 11)), (8, (0, 0)), (6, (31, 0)), (12, (31, 0)), (6, (32, 0)), (12, (32, 0)), (4, (0, 0)), (6, (16, 0)), (12, (16, 0)), (6, (17, 0)), (12, (17, 0)), (6, (18, 0)), (12, (18, 0)), (6, (19, 0)), (12, (19, 0)), (6, (20, 0)), (12, (20, 0)), (7, (0, 0)), (1, (0, 12)), (6, (0, 12)), (12, (0, 12)), (6, (1, 12)), (12, (1, 12)), (6, (2, 12)), (12, (2, 12)), (6, (3, 12)), (12, (3, 12)), (6, (4, 12)), (12, (4, 12)), (6, (5, 12)), (12, (5, 12)), (6, (6, 12)), (12, (6, 12)), (6, (7, 12)), (12, (7, 12)), (6, (8, 12)), (12, (8, 12)), (6, (9, 12)), (12, (9, 12)), (16, (0, 0)), (6, (33, 0)), (12, (33, 0)), (4, (0, 1)), (6, (16, 1)), (12, (16, 1)), (6, (17, 1)), (12, (17, 1)), (6, (18, 1)), (12, (18, 1)), (6, (19, 1)), (12, (19, 1)), (6, (20, 1)), (12, (20, 1)), (4, (0, 2)), (6, (16, 2)), (12, (16, 2)), (6, (17, 2)), (12, (17, 2)), (6, (18, 2)), (12, (18, 2)), (6, (19, 2))]
def jRefs5 : List jR := [(12, (19, 2)), (6, (20, 2)), (12, (20, 2)), (4, (0, 3)), (6, (16, 3)), (12, (16, 3)), (6, (17, 3)), (12, (17, 3)), (6, (18, 3)), (12, (18, 3)), (6, (19, 3)), (12, (19, 3)), (6, (20, 3)), (12, (20, 3)), (4, (0, 4)), (6, (16, 4)), (12, (16, 4)), (6, (17, 4)), (12, (17, 4)), (6, (18, 4)), (12, (18, 4)), (6, (19, 4)), (12, (19, 4)), (6, (20, 4)), (12, (20, 4)), (4, (0, 5)), (6, (16, 5)), (12, (16, 5)), (6, (17, 5)), (12, (17, 5)), (6, (18, 5)), (12, (18, 5)), (6, (19, 5)), (12, (19, 5)), (6, (20, 5)), (12, (20, 5)), (4, (0, 6)), (6, (16, 6)), (12, (16, 6)), (6, (17, 6)), (12, (17, 6)), (6, (18, 6)), (12, (18, 6)), (6, (19, 6)), (12, (19, 6)), (6, (20, 6)), (12, (20, 6)), (4, (0, 7)), (6, (16, 7)), (12, (16, 7)), (6, (17, 7)), (12, (17, 7)), (6, (18, 7)), (12, (18, 7)), (6, (19, 7)), (12, (19, 7)), (6, (20, 7)), (12, (20, 7)), (4, (0, 8)), (6, (16, 8)), (12, (16, 8)), (6, (17, 8)), (12, (17, 8)), (6, (18, 8))]
def jRefs6 : List jR := [(12, (18, 8)), (6, (19, 8)), (12, (19, 8)), (6, (20, 8)), (12, (20, 8)), (3, (0, 0)), (1, (0, 13)), (6, (0, 13)), (12, (0, 13)), (6, (1, 13)), (12, (1, 13)), (6, (2, 13)), (12, (2, 13)), (6, (3, 13)), (12, (3, 13)), (6, (4, 13)), (12, (4, 13)), (6, (5, 13)), (12, (5, 13)), (6, (6, 13)), (12, (6, 13)), (6, (7, 13)), (12, (7, 13)), (6, (8, 13)), (12, (8, 13)), (6, (9, 13)), (12, (9, 13)), (4, (0, 9)), (6, (16, 9)), (12, (16, 9)), (6, (17, 9)), (12, (17, 9)), (6, (18, 9)), (12, (18, 9)), (6, (19, 9)), (12, (19, 9)), (6, (20, 9)), (12, (20, 9)), (6, (34, 0)), (12, (34, 0)), (5, (0, 0)), (1, (0, 14)), (6, (0, 14)), (12, (0, 14)), (6, (1, 14)), (12, (1, 14)), (6, (2, 14)), (12, (2, 14)), (6, (3, 14)), (12, (3, 14)), (6, (4, 14)), (12, (4, 14)), (6, (5, 14)), (12, (5, 14)), (6, (6, 14)), (12, (6, 14)), (6, (7, 14)), (12, (7, 14)), (6, (8, 14)), (12, (8, 14)), (6, (9, 14)), (12, (9, 14)), (4, (0, 10)), (6, (16, 10))]
def jRefs7 : List jR := [(12, (16, 10)), (6, (17, 10)), (12, (17, 10)), (6, (18, 10)), (12, (18, 10)), (6, (19, 10)), (12, (19, 10)), (6, (20, 10)), (12, (20, 10)), (0, (0, 0)), (1, (0, 15)), (6, (0, 15)), (12, (0, 15)), (6, (1, 15)), (12, (1, 15)), (6, (2, 15)), (12, (2, 15)), (6, (3, 15)), (12, (3, 15)), (6, (4, 15)), (12, (4, 15)), (6, (5, 15)), (12, (5, 15)), (6, (6, 15)), (12, (6, 15)), (6, (7, 15)), (12, (7, 15)), (6, (8, 15)), (12, (8, 15)), (6, (9, 15)), (12, (9, 15)), (4, (0, 11)), (6, (16, 11)), (12, (16, 11)), (6, (17, 11)), (12, (17, 11)), (6, (18, 11)), (12, (18, 11)), (6, (19, 11)), (12, (19, 11)), (6, (20, 11)), (12, (20, 11)), (11, (0, 0)), (14, (40, 0)), (12, (42, 0)), (12, (43, 0)), (12, (44, 0)), (12, (45, 0)), (12, (46, 0)), (12, (47, 0)), (12, (48, 0)), (12, (49, 0)), (12, (50, 0)), (12, (55, 0)), (12, (56, 0)), (12, (58, 0)), (12, (60, 0)), (12, (61, 0)), (12, (62, 0)), (13, (63, 0)), (12, (64, 0)), (12, (66, 0)), (12, (67, 0)), (12, (68, 0))]
def jRefs : List jR := jRefs0 ++ (jRefs1 ++ (jRefs2 ++ (jRefs3 ++ (jRefs4 ++ (jRefs5 ++ (jRefs6 ++ (jRefs7)))))))
end
section
/-! every instruction of the tables is the bytecode's -/
def jDecOk (b : ByteArray) (x : jCode) : Bool := x.all fun ch => ch.all fun e => decide (decode b e.1 = .ok e.2)
theorem jdc0 : jDecOk (jBytesT.getD 0 .empty) jc0 = true := by decide +kernel
theorem jdc1 : jDecOk (jBytesT.getD 1 .empty) jc1 = true := by decide +kernel
theorem jdc2 : jDecOk (jBytesT.getD 2 .empty) jc2 = true := by decide +kernel
theorem jdc3 : jDecOk (jBytesT.getD 3 .empty) jc3 = true := by decide +kernel
theorem jdc4 : jDecOk (jBytesT.getD 4 .empty) jc4 = true := by decide +kernel
theorem jdc5 : jDecOk (jBytesT.getD 5 .empty) jc5 = true := by decide +kernel
theorem jdc6 : jDecOk (jBytesT.getD 6 .empty) jc6 = true := by decide +kernel
theorem jdc7 : jDecOk (jBytesT.getD 7 .empty) jc7 = true := by decide +kernel
theorem jdc8 : jDecOk (jBytesT.getD 8 .empty) jc8 = true := by decide +kernel
theorem jdc9 : jDecOk (jBytesT.getD 9 .empty) jc9 = true := by decide +kernel
theorem jdc10 : jDecOk (jBytesT.getD 10 .empty) jc10 = true := by decide +kernel
theorem jdc11 : jDecOk (jBytesT.getD 11 .empty) jc11 = true := by decide +kernel
theorem jdc12 : jDecOk (jBytesT.getD 12 .empty) jc12 = true := by decide +kernel
theorem jdc13 : jDecOk (jBytesT.getD 13 .empty) jc13 = true := by decide +kernel
theorem jdc14 : jDecOk (jBytesT.getD 14 .empty) jc14 = true := by decide +kernel
theorem jdc15 : jDecOk (jBytesT.getD 15 .empty) jc15 = true := by decide +kernel
theorem jdc16 : jDecOk (jBytesT.getD 16 .empty) jc16 = true := by decide +kernel
theorem jdc17 : jDecOk (jBytesT.getD 17 .empty) jc17 = true := by decide +kernel
theorem jdc18 : jDecOk (jBytesT.getD 18 .empty) jc18 = true := by decide +kernel
theorem jdc19 : jDecOk (jBytesT.getD 19 .empty) jc19 = true := by decide +kernel
theorem jdc20 : jDecOk (jBytesT.getD 20 .empty) jc20 = true := by decide +kernel
theorem jdc21 : jDecOk (jBytesT.getD 21 .empty) jc21 = true := by decide +kernel
theorem jdc22 : jDecOk (jBytesT.getD 22 .empty) jc22 = true := by decide +kernel
theorem jdc23 : jDecOk (jBytesT.getD 23 .empty) jc23 = true := by decide +kernel
theorem jdc24 : jDecOk (jBytesT.getD 24 .empty) jc24 = true := by decide +kernel
theorem jdc25 : jDecOk (jBytesT.getD 25 .empty) jc25 = true := by decide +kernel
theorem jdc26 : jDecOk (jBytesT.getD 26 .empty) jc26 = true := by decide +kernel
theorem jdc27 : jDecOk (jBytesT.getD 27 .empty) jc27 = true := by decide +kernel
theorem jdc28 : jDecOk (jBytesT.getD 28 .empty) jc28 = true := by decide +kernel
theorem jdc29 : jDecOk (jBytesT.getD 29 .empty) jc29 = true := by decide +kernel
theorem jdc30 : jDecOk (jBytesT.getD 30 .empty) jc30 = true := by decide +kernel
theorem jdc31 : jDecOk (jBytesT.getD 31 .empty) jc31 = true := by decide +kernel
theorem jdc32 : jDecOk (jBytesT.getD 32 .empty) jc32 = true := by decide +kernel
theorem jdc33 : jDecOk (jBytesT.getD 33 .empty) jc33 = true := by decide +kernel
theorem jdc34 : jDecOk (jBytesT.getD 34 .empty) jc34 = true := by decide +kernel
theorem jdc35 : jDecOk (jBytesT.getD 35 .empty) jc35 = true := by decide +kernel
theorem jdc36 : jDecOk (jBytesT.getD 36 .empty) jc36 = true := by decide +kernel
theorem jdc37 : jDecOk (jBytesT.getD 37 .empty) jc37 = true := by decide +kernel
theorem jdc38 : jDecOk (jBytesT.getD 38 .empty) jc38 = true := by decide +kernel
theorem jdc39 : jDecOk (jBytesT.getD 39 .empty) jc39 = true := by decide +kernel
theorem jdc40 : jDecOk (jBytesT.getD 40 .empty) jc40 = true := by decide +kernel
theorem jdc41 : jDecOk (jBytesT.getD 41 .empty) jc41 = true := by decide +kernel
theorem jdc42 : jDecOk (jBytesT.getD 42 .empty) jc42 = true := by decide +kernel
theorem jdc43 : jDecOk (jBytesT.getD 43 .empty) jc43 = true := by decide +kernel
theorem jdc44 : jDecOk (jBytesT.getD 44 .empty) jc44 = true := by decide +kernel
theorem jdc45 : jDecOk (jBytesT.getD 45 .empty) jc45 = true := by decide +kernel
theorem jdc46 : jDecOk (jBytesT.getD 46 .empty) jc46 = true := by decide +kernel
theorem jdc47 : jDecOk (jBytesT.getD 47 .empty) jc47 = true := by decide +kernel
theorem jdc48 : jDecOk (jBytesT.getD 48 .empty) jc48 = true := by decide +kernel
theorem jdc49 : jDecOk (jBytesT.getD 49 .empty) jc49 = true := by decide +kernel
theorem jdc50 : jDecOk (jBytesT.getD 50 .empty) jc50 = true := by decide +kernel
theorem jdc51 : jDecOk (jBytesT.getD 51 .empty) jc51 = true := by decide +kernel
theorem jdc52 : jDecOk (jBytesT.getD 52 .empty) jc52 = true := by decide +kernel
theorem jdc53 : jDecOk (jBytesT.getD 53 .empty) jc53 = true := by decide +kernel
theorem jdc54 : jDecOk (jBytesT.getD 54 .empty) jc54 = true := by decide +kernel
theorem jdc55 : jDecOk (jBytesT.getD 55 .empty) jc55 = true := by decide +kernel
theorem jdc56 : jDecOk (jBytesT.getD 56 .empty) jc56 = true := by decide +kernel
theorem jdc57 : jDecOk (jBytesT.getD 57 .empty) jc57 = true := by decide +kernel
theorem jdc58 : jDecOk (jBytesT.getD 58 .empty) jc58 = true := by decide +kernel
theorem jdc59 : jDecOk (jBytesT.getD 59 .empty) jc59 = true := by decide +kernel
theorem jdc60 : jDecOk (jBytesT.getD 60 .empty) jc60 = true := by decide +kernel
theorem jdc61 : jDecOk (jBytesT.getD 61 .empty) jc61 = true := by decide +kernel
theorem jdc62 : jDecOk (jBytesT.getD 62 .empty) jc62 = true := by decide +kernel
theorem jdc63 : jDecOk (jBytesT.getD 63 .empty) jc63 = true := by decide +kernel
theorem jdc64 : jDecOk (jBytesT.getD 64 .empty) jc64 = true := by decide +kernel
theorem jdc65 : jDecOk (jBytesT.getD 65 .empty) jc65 = true := by decide +kernel
theorem jdc66 : jDecOk (jBytesT.getD 66 .empty) jc66 = true := by decide +kernel
theorem jdc67 : jDecOk (jBytesT.getD 67 .empty) jc67 = true := by decide +kernel
theorem jdc68 : jDecOk (jBytesT.getD 68 .empty) jc68 = true := by decide +kernel
theorem jdc69 : jDecOk (jBytesT.getD 69 .empty) jc69 = true := by decide +kernel
theorem jdc70 : jDecOk (jBytesT.getD 70 .empty) jc70 = true := by decide +kernel
theorem jdc71 : jDecOk (jBytesT.getD 71 .empty) jc71 = true := by decide +kernel
theorem jdc72 : jDecOk (jBytesT.getD 72 .empty) jc72 = true := by decide +kernel
theorem jdc73 : jDecOk (jBytesT.getD 73 .empty) jc73 = true := by decide +kernel
theorem jdc74 : jDecOk (jBytesT.getD 74 .empty) jc74 = true := by decide +kernel
theorem jdc75 : jDecOk (jBytesT.getD 75 .empty) jc75 = true := by decide +kernel
theorem jdc76 : jDecOk (jBytesT.getD 76 .empty) jc76 = true := by decide +kernel
theorem jdc77 : jDecOk (jBytesT.getD 77 .empty) jc77 = true := by decide +kernel
theorem jdc78 : jDecOk (jBytesT.getD 78 .empty) jc78 = true := by decide +kernel
theorem jdc79 : jDecOk (jBytesT.getD 79 .empty) jc79 = true := by decide +kernel
theorem jdc80 : jDecOk (jBytesT.getD 80 .empty) jc80 = true := by decide +kernel
theorem jdc81 : jDecOk (jBytesT.getD 81 .empty) jc81 = true := by decide +kernel
theorem jdc82 : jDecOk (jBytesT.getD 82 .empty) jc82 = true := by decide +kernel
theorem jdc83 : jDecOk (jBytesT.getD 83 .empty) jc83 = true := by decide +kernel
theorem jdc84 : jDecOk (jBytesT.getD 84 .empty) jc84 = true := by decide +kernel
theorem jdc85 : jDecOk (jBytesT.getD 85 .empty) jc85 = true := by decide +kernel
theorem jdc86 : jDecOk (jBytesT.getD 86 .empty) jc86 = true := by decide +kernel
theorem jdc87 : jDecOk (jBytesT.getD 87 .empty) jc87 = true := by decide +kernel
theorem jdc88 : jDecOk (jBytesT.getD 88 .empty) jc88 = true := by decide +kernel
theorem jdc89 : jDecOk (jBytesT.getD 89 .empty) jc89 = true := by decide +kernel
theorem jdc90 : jDecOk (jBytesT.getD 90 .empty) jc90 = true := by decide +kernel
theorem jdc91 : jDecOk (jBytesT.getD 91 .empty) jc91 = true := by decide +kernel
theorem jdc92 : jDecOk (jBytesT.getD 92 .empty) jc92 = true := by decide +kernel
theorem jdc93 : jDecOk (jBytesT.getD 93 .empty) jc93 = true := by decide +kernel
theorem jdc94 : jDecOk (jBytesT.getD 94 .empty) jc94 = true := by decide +kernel
theorem jdc95 : jDecOk (jBytesT.getD 95 .empty) jc95 = true := by decide +kernel
theorem jdc96 : jDecOk (jBytesT.getD 96 .empty) jc96 = true := by decide +kernel
theorem jdc97 : jDecOk (jBytesT.getD 97 .empty) jc97 = true := by decide +kernel
theorem jdc98 : jDecOk (jBytesT.getD 98 .empty) jc98 = true := by decide +kernel
theorem jdc99 : jDecOk (jBytesT.getD 99 .empty) jc99 = true := by decide +kernel
theorem jdc100 : jDecOk (jBytesT.getD 100 .empty) jc100 = true := by decide +kernel
theorem jdc101 : jDecOk (jBytesT.getD 101 .empty) jc101 = true := by decide +kernel
theorem jdc102 : jDecOk (jBytesT.getD 102 .empty) jc102 = true := by decide +kernel
theorem jdc103 : jDecOk (jBytesT.getD 103 .empty) jc103 = true := by decide +kernel
theorem jdc104 : jDecOk (jBytesT.getD 104 .empty) jc104 = true := by decide +kernel
theorem jdc105 : jDecOk (jBytesT.getD 105 .empty) jc105 = true := by decide +kernel
theorem jdc106 : jDecOk (jBytesT.getD 106 .empty) jc106 = true := by decide +kernel
theorem jdc107 : jDecOk (jBytesT.getD 107 .empty) jc107 = true := by decide +kernel
theorem jdc108 : jDecOk (jBytesT.getD 108 .empty) jc108 = true := by decide +kernel
theorem jdc109 : jDecOk (jBytesT.getD 109 .empty) jc109 = true := by decide +kernel
theorem jdc110 : jDecOk (jBytesT.getD 110 .empty) jc110 = true := by decide +kernel
theorem jdc111 : jDecOk (jBytesT.getD 111 .empty) jc111 = true := by decide +kernel
theorem jdc112 : jDecOk (jBytesT.getD 112 .empty) jc112 = true := by decide +kernel
theorem jdc113 : jDecOk (jBytesT.getD 113 .empty) jc113 = true := by decide +kernel
theorem jdc114 : jDecOk (jBytesT.getD 114 .empty) jc114 = true := by decide +kernel
theorem jdc115 : jDecOk (jBytesT.getD 115 .empty) jc115 = true := by decide +kernel
theorem jdc116 : jDecOk (jBytesT.getD 116 .empty) jc116 = true := by decide +kernel
theorem jdc117 : jDecOk (jBytesT.getD 117 .empty) jc117 = true := by decide +kernel
theorem jdc118 : jDecOk (jBytesT.getD 118 .empty) jc118 = true := by decide +kernel
theorem jdc119 : jDecOk (jBytesT.getD 119 .empty) jc119 = true := by decide +kernel
theorem jdc120 : jDecOk (jBytesT.getD 120 .empty) jc120 = true := by decide +kernel
theorem jdc121 : jDecOk (jBytesT.getD 121 .empty) jc121 = true := by decide +kernel
theorem jdc122 : jDecOk (jBytesT.getD 122 .empty) jc122 = true := by decide +kernel
theorem jdc123 : jDecOk (jBytesT.getD 123 .empty) jc123 = true := by decide +kernel
theorem jdc124 : jDecOk (jBytesT.getD 124 .empty) jc124 = true := by decide +kernel
theorem jdc125 : jDecOk (jBytesT.getD 125 .empty) jc125 = true := by decide +kernel
theorem jdc126 : jDecOk (jBytesT.getD 126 .empty) jc126 = true := by decide +kernel
theorem jdc127 : jDecOk (jBytesT.getD 127 .empty) jc127 = true := by decide +kernel
theorem jdc128 : jDecOk (jBytesT.getD 128 .empty) jc128 = true := by decide +kernel
theorem jdc129 : jDecOk (jBytesT.getD 129 .empty) jc129 = true := by decide +kernel
theorem jdc130 : jDecOk (jBytesT.getD 130 .empty) jc130 = true := by decide +kernel
theorem jdc131 : jDecOk (jBytesT.getD 131 .empty) jc131 = true := by decide +kernel
theorem jdc132 : jDecOk (jBytesT.getD 132 .empty) jc132 = true := by decide +kernel
theorem jdc133 : jDecOk (jBytesT.getD 133 .empty) jc133 = true := by decide +kernel
theorem jdc134 : jDecOk (jBytesT.getD 134 .empty) jc134 = true := by decide +kernel
theorem jdc135 : jDecOk (jBytesT.getD 135 .empty) jc135 = true := by decide +kernel
theorem jdc136 : jDecOk (jBytesT.getD 136 .empty) jc136 = true := by decide +kernel
theorem jdc137 : jDecOk (jBytesT.getD 137 .empty) jc137 = true := by decide +kernel
theorem jdc138 : jDecOk (jBytesT.getD 138 .empty) jc138 = true := by decide +kernel
theorem jdc139 : jDecOk (jBytesT.getD 139 .empty) jc139 = true := by decide +kernel
theorem jdc140 : jDecOk (jBytesT.getD 140 .empty) jc140 = true := by decide +kernel
theorem jdc141 : jDecOk (jBytesT.getD 141 .empty) jc141 = true := by decide +kernel
theorem jdc142 : jDecOk (jBytesT.getD 142 .empty) jc142 = true := by decide +kernel
theorem jdc143 : jDecOk (jBytesT.getD 143 .empty) jc143 = true := by decide +kernel
theorem jdc144 : jDecOk (jBytesT.getD 144 .empty) jc144 = true := by decide +kernel
theorem jdc145 : jDecOk (jBytesT.getD 145 .empty) jc145 = true := by decide +kernel
theorem jdc146 : jDecOk (jBytesT.getD 146 .empty) jc146 = true := by decide +kernel
theorem jdc147 : jDecOk (jBytesT.getD 147 .empty) jc147 = true := by decide +kernel
theorem jdc148 : jDecOk (jBytesT.getD 148 .empty) jc148 = true := by decide +kernel
theorem jdc149 : jDecOk (jBytesT.getD 149 .empty) jc149 = true := by decide +kernel
theorem jdc150 : jDecOk (jBytesT.getD 150 .empty) jc150 = true := by decide +kernel
theorem jdc151 : jDecOk (jBytesT.getD 151 .empty) jc151 = true := by decide +kernel
theorem jdc152 : jDecOk (jBytesT.getD 152 .empty) jc152 = true := by decide +kernel
theorem jdc153 : jDecOk (jBytesT.getD 153 .empty) jc153 = true := by decide +kernel
theorem jdc154 : jDecOk (jBytesT.getD 154 .empty) jc154 = true := by decide +kernel
theorem jdc155 : jDecOk (jBytesT.getD 155 .empty) jc155 = true := by decide +kernel
theorem jdc156 : jDecOk (jBytesT.getD 156 .empty) jc156 = true := by decide +kernel
theorem jdc157 : jDecOk (jBytesT.getD 157 .empty) jc157 = true := by decide +kernel
theorem jdc158 : jDecOk (jBytesT.getD 158 .empty) jc158 = true := by decide +kernel
theorem jdc159 : jDecOk (jBytesT.getD 159 .empty) jc159 = true := by decide +kernel
theorem jdc160 : jDecOk (jBytesT.getD 160 .empty) jc160 = true := by decide +kernel
theorem jdc161 : jDecOk (jBytesT.getD 161 .empty) jc161 = true := by decide +kernel
theorem jdc162 : jDecOk (jBytesT.getD 162 .empty) jc162 = true := by decide +kernel
theorem jdc163 : jDecOk (jBytesT.getD 163 .empty) jc163 = true := by decide +kernel
theorem jdc164 : jDecOk (jBytesT.getD 164 .empty) jc164 = true := by decide +kernel
theorem jdc165 : jDecOk (jBytesT.getD 165 .empty) jc165 = true := by decide +kernel
theorem jdc166 : jDecOk (jBytesT.getD 166 .empty) jc166 = true := by decide +kernel
theorem jdc167 : jDecOk (jBytesT.getD 167 .empty) jc167 = true := by decide +kernel
theorem jdc168 : jDecOk (jBytesT.getD 168 .empty) jc168 = true := by decide +kernel
theorem jdc169 : jDecOk (jBytesT.getD 169 .empty) jc169 = true := by decide +kernel
theorem jdc170 : jDecOk (jBytesT.getD 170 .empty) jc170 = true := by decide +kernel
theorem jdc171 : jDecOk (jBytesT.getD 171 .empty) jc171 = true := by decide +kernel
theorem jdc172 : jDecOk (jBytesT.getD 172 .empty) jc172 = true := by decide +kernel
theorem jdc173 : jDecOk (jBytesT.getD 173 .empty) jc173 = true := by decide +kernel
theorem jdc174 : jDecOk (jBytesT.getD 174 .empty) jc174 = true := by decide +kernel
theorem jdc175 : jDecOk (jBytesT.getD 175 .empty) jc175 = true := by decide +kernel
theorem jdc176 : jDecOk (jBytesT.getD 176 .empty) jc176 = true := by decide +kernel
theorem jdc177 : jDecOk (jBytesT.getD 177 .empty) jc177 = true := by decide +kernel
theorem jdc178 : jDecOk (jBytesT.getD 178 .empty) jc178 = true := by decide +kernel
theorem jdc179 : jDecOk (jBytesT.getD 179 .empty) jc179 = true := by decide +kernel
theorem jdc180 : jDecOk (jBytesT.getD 180 .empty) jc180 = true := by decide +kernel
theorem jdc181 : jDecOk (jBytesT.getD 181 .empty) jc181 = true := by decide +kernel
theorem jdc182 : jDecOk (jBytesT.getD 182 .empty) jc182 = true := by decide +kernel
theorem jdc183 : jDecOk (jBytesT.getD 183 .empty) jc183 = true := by decide +kernel
theorem jdc184 : jDecOk (jBytesT.getD 184 .empty) jc184 = true := by decide +kernel
theorem jdc185 : jDecOk (jBytesT.getD 185 .empty) jc185 = true := by decide +kernel
theorem jdc186 : jDecOk (jBytesT.getD 186 .empty) jc186 = true := by decide +kernel
theorem jdc187 : jDecOk (jBytesT.getD 187 .empty) jc187 = true := by decide +kernel
theorem jdc188 : jDecOk (jBytesT.getD 188 .empty) jc188 = true := by decide +kernel
theorem jdc189 : jDecOk (jBytesT.getD 189 .empty) jc189 = true := by decide +kernel
theorem jdc190 : jDecOk (jBytesT.getD 190 .empty) jc190 = true := by decide +kernel
theorem jdc191 : jDecOk (jBytesT.getD 191 .empty) jc191 = true := by decide +kernel
theorem jdc192 : jDecOk (jBytesT.getD 192 .empty) jc192 = true := by decide +kernel
theorem jdc193 : jDecOk (jBytesT.getD 193 .empty) jc193 = true := by decide +kernel
theorem jdc194 : jDecOk (jBytesT.getD 194 .empty) jc194 = true := by decide +kernel
theorem jdc195 : jDecOk (jBytesT.getD 195 .empty) jc195 = true := by decide +kernel
theorem jdc196 : jDecOk (jBytesT.getD 196 .empty) jc196 = true := by decide +kernel
theorem jdc197 : jDecOk (jBytesT.getD 197 .empty) jc197 = true := by decide +kernel
theorem jdc198 : jDecOk (jBytesT.getD 198 .empty) jc198 = true := by decide +kernel
theorem jdec_all : ∀ k, k < 199 → jDecOk (jBytesT.getD k .empty) (jCodeT.getD k []) = true
  | 0, _ => jdc0
  | 1, _ => jdc1
  | 2, _ => jdc2
  | 3, _ => jdc3
  | 4, _ => jdc4
  | 5, _ => jdc5
  | 6, _ => jdc6
  | 7, _ => jdc7
  | 8, _ => jdc8
  | 9, _ => jdc9
  | 10, _ => jdc10
  | 11, _ => jdc11
  | 12, _ => jdc12
  | 13, _ => jdc13
  | 14, _ => jdc14
  | 15, _ => jdc15
  | 16, _ => jdc16
  | 17, _ => jdc17
  | 18, _ => jdc18
  | 19, _ => jdc19
  | 20, _ => jdc20
  | 21, _ => jdc21
  | 22, _ => jdc22
  | 23, _ => jdc23
  | 24, _ => jdc24
  | 25, _ => jdc25
  | 26, _ => jdc26
  | 27, _ => jdc27
  | 28, _ => jdc28
  | 29, _ => jdc29
  | 30, _ => jdc30
  | 31, _ => jdc31
  | 32, _ => jdc32
  | 33, _ => jdc33
  | 34, _ => jdc34
  | 35, _ => jdc35
  | 36, _ => jdc36
  | 37, _ => jdc37
  | 38, _ => jdc38
  | 39, _ => jdc39
  | 40, _ => jdc40
  | 41, _ => jdc41
  | 42, _ => jdc42
  | 43, _ => jdc43
  | 44, _ => jdc44
  | 45, _ => jdc45
  | 46, _ => jdc46
  | 47, _ => jdc47
  | 48, _ => jdc48
  | 49, _ => jdc49
  | 50, _ => jdc50
  | 51, _ => jdc51
  | 52, _ => jdc52
  | 53, _ => jdc53
  | 54, _ => jdc54
  | 55, _ => jdc55
  | 56, _ => jdc56
  | 57, _ => jdc57
  | 58, _ => jdc58
  | 59, _ => jdc59
  | 60, _ => jdc60
  | 61, _ => jdc61
  | 62, _ => jdc62
  | 63, _ => jdc63
  | 64, _ => jdc64
  | 65, _ => jdc65
  | 66, _ => jdc66
  | 67, _ => jdc67
  | 68, _ => jdc68
  | 69, _ => jdc69
  | 70, _ => jdc70
  | 71, _ => jdc71
  | 72, _ => jdc72
  | 73, _ => jdc73
  | 74, _ => jdc74
  | 75, _ => jdc75
  | 76, _ => jdc76
  | 77, _ => jdc77
  | 78, _ => jdc78
  | 79, _ => jdc79
  | 80, _ => jdc80
  | 81, _ => jdc81
  | 82, _ => jdc82
  | 83, _ => jdc83
  | 84, _ => jdc84
  | 85, _ => jdc85
  | 86, _ => jdc86
  | 87, _ => jdc87
  | 88, _ => jdc88
  | 89, _ => jdc89
  | 90, _ => jdc90
  | 91, _ => jdc91
  | 92, _ => jdc92
  | 93, _ => jdc93
  | 94, _ => jdc94
  | 95, _ => jdc95
  | 96, _ => jdc96
  | 97, _ => jdc97
  | 98, _ => jdc98
  | 99, _ => jdc99
  | 100, _ => jdc100
  | 101, _ => jdc101
  | 102, _ => jdc102
  | 103, _ => jdc103
  | 104, _ => jdc104
  | 105, _ => jdc105
  | 106, _ => jdc106
  | 107, _ => jdc107
  | 108, _ => jdc108
  | 109, _ => jdc109
  | 110, _ => jdc110
  | 111, _ => jdc111
  | 112, _ => jdc112
  | 113, _ => jdc113
  | 114, _ => jdc114
  | 115, _ => jdc115
  | 116, _ => jdc116
  | 117, _ => jdc117
  | 118, _ => jdc118
  | 119, _ => jdc119
  | 120, _ => jdc120
  | 121, _ => jdc121
  | 122, _ => jdc122
  | 123, _ => jdc123
  | 124, _ => jdc124
  | 125, _ => jdc125
  | 126, _ => jdc126
  | 127, _ => jdc127
  | 128, _ => jdc128
  | 129, _ => jdc129
  | 130, _ => jdc130
  | 131, _ => jdc131
  | 132, _ => jdc132
  | 133, _ => jdc133
  | 134, _ => jdc134
  | 135, _ => jdc135
  | 136, _ => jdc136
  | 137, _ => jdc137
  | 138, _ => jdc138
  | 139, _ => jdc139
  | 140, _ => jdc140
  | 141, _ => jdc141
  | 142, _ => jdc142
  | 143, _ => jdc143
  | 144, _ => jdc144
  | 145, _ => jdc145
  | 146, _ => jdc146
  | 147, _ => jdc147
  | 148, _ => jdc148
  | 149, _ => jdc149
  | 150, _ => jdc150
  | 151, _ => jdc151
  | 152, _ => jdc152
  | 153, _ => jdc153
  | 154, _ => jdc154
  | 155, _ => jdc155
  | 156, _ => jdc156
  | 157, _ => jdc157
  | 158, _ => jdc158
  | 159, _ => jdc159
  | 160, _ => jdc160
  | 161, _ => jdc161
  | 162, _ => jdc162
  | 163, _ => jdc163
  | 164, _ => jdc164
  | 165, _ => jdc165
  | 166, _ => jdc166
  | 167, _ => jdc167
  | 168, _ => jdc168
  | 169, _ => jdc169
  | 170, _ => jdc170
  | 171, _ => jdc171
  | 172, _ => jdc172
  | 173, _ => jdc173
  | 174, _ => jdc174
  | 175, _ => jdc175
  | 176, _ => jdc176
  | 177, _ => jdc177
  | 178, _ => jdc178
  | 179, _ => jdc179
  | 180, _ => jdc180
  | 181, _ => jdc181
  | 182, _ => jdc182
  | 183, _ => jdc183
  | 184, _ => jdc184
  | 185, _ => jdc185
  | 186, _ => jdc186
  | 187, _ => jdc187
  | 188, _ => jdc188
  | 189, _ => jdc189
  | 190, _ => jdc190
  | 191, _ => jdc191
  | 192, _ => jdc192
  | 193, _ => jdc193
  | 194, _ => jdc194
  | 195, _ => jdc195
  | 196, _ => jdc196
  | 197, _ => jdc197
  | 198, _ => jdc198
  | n + 199, h => absurd h (by omega)
end
section
/-! the pools of the tables against the words of the claim -/
def jTs : List Jvm.Cond := lw_tbl.filter goodWord
def jIsNest : Jvm.Cond → Bool
  | .fieldLinkNest .. => true
  | .methodLinkNest .. => true
  | _ => false
def jNest : List Jvm.Cond := tables_1.filter jIsNest
theorem jlookup_mem {α : Type} : ∀ (l : List (Nat × α)) (k : Nat) (v : α), l.lookup k = some v → (k, v) ∈ l
  | [], k, v, h => by simp [List.lookup] at h
  | (a, b) :: l, k, v, h => by
    rw [List.lookup_cons] at h
    by_cases e : k = a
    · subst e
      simp at h
      subst h
      exact List.mem_cons_self
    · have e2 : (k == a) = false := by simp [e]
      rw [e2] at h
      exact List.mem_cons_of_mem _ (jlookup_mem l k v h)
abbrev jCl : List vw_C := [(RX0, TX0, 4), (RX1, TX1, 16), (RX2, TX2, 3), (RX3, TX3, 5), (RX4, TX4, 6), (RX5, TX5, 4), (RX6, TX6, 1), (RX7, TX7, 7), (RX8, TX8, 3), (RX9, TX9, 4), (RX10, TX10, 11), (RX11, TX11, 30)]
def jOwn (m : Nat) : Nat := jOwnT.getD m 0
def jAt (i : Nat) (w : Jvm.Cond) : Bool := decide (lw_tbl[i]? = some w) && goodWord w
def jAtN (i : Nat) (w : Jvm.Cond) : Bool := decide (tables_1[i]? = some w) && jIsNest w
theorem jAt_mem {i : Nat} {w : Jvm.Cond} (h : jAt i w = true) : w ∈ jTs := by
  simp only [jAt, Bool.and_eq_true, decide_eq_true_eq] at h
  exact List.mem_filter.mpr ⟨List.mem_of_getElem? h.1, h.2⟩
theorem jAtN_mem {i : Nat} {w : Jvm.Cond} (h : jAtN i w = true) : w ∈ jNest := by
  simp only [jAtN, Bool.and_eq_true, decide_eq_true_eq] at h
  exact List.mem_filter.mpr ⟨List.mem_of_getElem? h.1, h.2⟩
theorem jTs_good : ∀ w ∈ jTs, goodWord w = true := fun w h => (List.mem_filter.mp h).2
def jC (k : Nat) : String := jROwn.getD k ""
def jT (k : Nat) : u_T := jTX.getD k (fun _ => ("", "", "", false))
def jN (k : Nat) : Nat := jNT.getD k 0
def jTy (k : Nat) : Nat → FieldType := jTyX.getD k (fun _ => .int)
def jFldOk (own i k s p : Nat) (nest : Bool) : Bool := (Nat.blt k 12 && Nat.blt s (jN k)) && (if nest then jAtN p (.fieldLinkNest (jC own) i (jT k s).1 (jT k s).2.1 (jT k s).2.2.1 "PlayedLaws") else jAt p (.fieldLink (jC own) i (jT k s).1 (jT k s).2.1 (jT k s).2.2.1))
def jFldC : List ((Nat × (Nat × (Nat × Nat))) × (Nat × Bool)) := [((0, (12, (0, 0))), (402, false)), ((0, (21, (0, 1))), (404, false)), ((0, (25, (0, 2))), (405, false)), ((0, (29, (0, 3))), (407, false)), ((0, (32, (1, 11))), (94, true)), ((0, (59, (1, 5))), (72, true)), ((0, (83, (1, 10))), (92, true)), ((0, (90, (1, 12))), (104, true)), ((1, (14, (1, 0))), (116, false)), ((1, (20, (1, 1))), (120, false)), ((1, (23, (1, 2))), (124, false)), ((1, (26, (1, 3))), (126, false)), ((1, (29, (1, 4))), (129, false)), ((1, (32, (1, 5))), (132, false)), ((1, (35, (1, 6))), (137, false)), ((1, (38, (1, 7))), (141, false)), ((1, (41, (1, 8))), (145, false)), ((1, (44, (1, 9))), (147, false)), ((1, (53, (1, 10))), (150, false)), ((1, (57, (1, 11))), (157, false)), ((1, (60, (1, 12))), (161, false)), ((1, (63, (1, 13))), (168, false)), ((1, (66, (1, 14))), (171, false)), ((1, (69, (1, 15))), (173, false)), ((1, (127, (4, 5))), (223, true)), ((1, (141, (4, 3))), (218, true)), ((2, (9, (2, 0))), (234, false)), ((2, (16, (2, 1))), (235, false)), ((2, (24, (2, 2))), (236, false)), ((3, (12, (3, 0))), (349, false)), ((3, (21, (3, 1))), (350, false)), ((3, (30, (3, 2))), (351, false)), ((3, (34, (3, 4))), (355, false)), ((3, (46, (1, 9))), (86, true)), ((3, (52, (3, 3))), (353, false)), ((3, (62, (1, 11))), (96, true)), ((3, (73, (4, 5))), (221, true)), ((4, (14, (4, 0))), (272, false)), ((4, (20, (4, 1))), (274, false)), ((4, (23, (4, 2))), (277, false)), ((4, (26, (4, 3))), (278, false)), ((4, (29, (4, 4))), (281, false)), ((4, (35, (4, 5))), (282, false)), ((4, (46, (1, 12))), (100, true)), ((4, (59, (1, 11))), (97, true)), ((4, (62, (1, 9))), (87, true)), ((4, (76, (1, 4))), (69, true)), ((4, (90, (1, 1))), (61, true)), ((4, (93, (1, 5))), (74, true)), ((4, (96, (1, 6))), (78, true)), ((4, (99, (1, 0))), (57, true)), ((4, (108, (1, 3))), (66, true)), ((4, (114, (1, 7))), (82, true)), ((5, (12, (5, 0))), (377, false)), ((5, (21, (5, 1))), (378, false)), ((5, (25, (1, 11))), (93, true)), ((5, (43, (1, 5))), (71, true)), ((5, (57, (1, 10))), (90, true)), ((5, (71, (5, 2))), (379, false)), ((5, (74, (5, 3))), (381, false)), ((5, (77, (1, 12))), (102, true)), ((5, (103, (1, 7))), (80, true)), ((5, (110, (1, 6))), (77, true)), ((5, (113, (4, 1))), (214, true)), ((6, (9, (6, 0))), (103, false)), ((7, (12, (7, 0))), (312, false)), ((7, (20, (7, 1))), (313, false)), ((7, (29, (7, 2))), (314, false)), ((7, (33, (7, 6))), (321, false)), ((7, (38, (7, 5))), (320, false)), ((7, (45, (7, 3))), (316, false)), ((7, (48, (7, 4))), (318, false)), ((7, (55, (1, 10))), (89, true)), ((7, (58, (1, 1))), (59, true)), ((7, (82, (1, 4))), (68, true)), ((7, (88, (1, 12))), (101, true)), ((7, (102, (1, 0))), (55, true)), ((8, (14, (8, 0))), (253, false)), ((8, (20, (8, 1))), (254, false)), ((8, (23, (8, 2))), (255, false)), ((9, (14, (9, 0))), (208, false)), ((9, (23, (9, 1))), (209, false)), ((9, (27, (9, 2))), (212, false)), ((9, (38, (9, 3))), (213, false)), ((9, (72, (1, 12))), (103, true)), ((9, (89, (1, 13))), (107, true)), ((10, (12, (10, 0))), (582, false)), ((10, (19, (10, 1))), (583, false)), ((10, (28, (10, 2))), (584, false)), ((10, (32, (10, 3))), (585, false)), ((10, (38, (10, 4))), (586, false)), ((10, (45, (10, 5))), (587, false)), ((10, (52, (10, 6))), (588, false)), ((10, (59, (10, 7))), (589, false)), ((10, (66, (10, 8))), (590, false)), ((10, (73, (10, 9))), (591, false)), ((10, (96, (9, 1))), (148, true)), ((10, (103, (9, 2))), (149, true)), ((10, (110, (1, 10))), (91, true)), ((10, (113, (1, 11))), (98, true)), ((10, (119, (1, 0))), (56, true)), ((10, (129, (1, 1))), (60, true)), ((10, (132, (1, 2))), (63, true)), ((10, (138, (1, 3))), (65, true)), ((10, (144, (1, 5))), (73, true)), ((10, (147, (1, 6))), (76, true)), ((10, (150, (1, 7))), (81, true)), ((10, (156, (1, 8))), (84, true)), ((10, (163, (4, 1))), (213, true)), ((10, (166, (4, 3))), (217, true)), ((10, (169, (4, 0))), (211, true)), ((10, (172, (4, 5))), (222, true)), ((10, (185, (1, 12))), (105, true)), ((10, (212, (1, 13))), (108, true)), ((10, (215, (2, 2))), (175, true)), ((10, (221, (10, 10))), (592, false)), ((10, (228, (7, 3))), (255, true)), ((10, (229, (7, 4))), (257, true)), ((10, (231, (7, 2))), (253, true)), ((10, (236, (3, 3))), (292, true)), ((10, (239, (3, 2))), (290, true)), ((10, (258, (5, 2))), (318, true)), ((10, (261, (5, 3))), (320, true)), ((10, (268, (8, 2))), (194, true)), ((10, (281, (0, 2))), (344, true)), ((10, (284, (0, 3))), (346, true)), ((10, (290, (0, 0))), (341, true)), ((10, (293, (1, 15))), (112, true)), ((10, (302, (1, 14))), (110, true)), ((11, (7, (11, 0))), (1053, false)), ((11, (13, (11, 2))), (1055, false)), ((11, (17, (11, 3))), (1056, false)), ((11, (20, (11, 4))), (1057, false)), ((11, (23, (11, 5))), (1058, false)), ((11, (26, (11, 6))), (1059, false)), ((11, (29, (11, 7))), (1060, false)), ((11, (32, (11, 8))), (1061, false)), ((11, (35, (11, 9))), (1062, false)), ((11, (38, (11, 10))), (1063, false)), ((11, (41, (11, 15))), (1068, false)), ((11, (44, (11, 16))), (1069, false)), ((11, (47, (11, 18))), (1071, false)), ((11, (50, (11, 20))), (1073, false)), ((11, (53, (11, 21))), (1074, false)), ((11, (56, (11, 22))), (1075, false)), ((11, (59, (11, 23))), (1076, false)), ((11, (63, (11, 24))), (1077, false)), ((11, (66, (11, 26))), (1079, false)), ((11, (69, (11, 27))), (1080, false)), ((11, (72, (11, 28))), (1081, false)), ((11, (85, (11, 1))), (1054, false)), ((11, (89, (11, 13))), (1066, false)), ((11, (96, (11, 14))), (1067, false)), ((11, (112, (11, 11))), (1064, false)), ((11, (124, (11, 12))), (1065, false)), ((11, (143, (11, 17))), (1070, false)), ((11, (146, (11, 19))), (1072, false)), ((11, (149, (11, 29))), (1082, false)), ((11, (163, (11, 25))), (1078, false))]
theorem jFldC_ok : (jFldC.all fun e => jFldOk e.1.1 e.1.2.1 e.1.2.2.1 e.1.2.2.2 e.2.1 e.2.2) = true := by decide +kernel
theorem jFldT_ok : (jFldT.zipIdx.all fun q => q.1.all fun x => jFldC.any fun e => decide (e.1 = (q.2, (x.1, x.2)))) = true := by decide +kernel
theorem jmem_getD {α : Type} {t : List (List α)} {own : Nat} {x : α} (h : x ∈ t.getD own []) : (t.getD own [], own) ∈ t.zipIdx := by
  rw [List.getD_eq_getElem?_getD] at h ⊢
  cases hq : t[own]? with
  | none => rw [hq] at h; exact absurd h List.not_mem_nil
  | some l => exact List.mem_zipIdx_iff_getElem?.mpr hq
theorem jfld {own i k s : Nat} (h : (jFldT.getD own []).lookup i = some (k, s)) : k < 12 ∧ s < jN k ∧ (Cond.fieldLink (jC own) i (jT k s).1 (jT k s).2.1 (jT k s).2.2.1 ∈ jTs ∨ Cond.fieldLinkNest (jC own) i (jT k s).1 (jT k s).2.1 (jT k s).2.2.1 "PlayedLaws" ∈ jNest) := by
  have h1 := jlookup_mem _ _ _ h
  have h2 := List.all_eq_true.mp jFldT_ok _ (jmem_getD h1)
  have h3 := List.all_eq_true.mp h2 _ h1
  obtain ⟨e, he, h4⟩ := List.any_eq_true.mp h3
  have h5 := List.all_eq_true.mp jFldC_ok _ he
  have h6 : e.1 = (own, (i, (k, s))) := of_decide_eq_true h4
  rw [h6] at h5
  simp only [jFldOk, Bool.and_eq_true, Nat.blt_eq] at h5
  refine ⟨h5.1.1, h5.1.2, ?_⟩
  have h7 := h5.2
  cases hb : e.2.2
  · rw [hb] at h7
    exact Or.inl (jAt_mem h7)
  · rw [hb] at h7
    exact Or.inr (jAtN_mem h7)
theorem jFldC_own : (jFldC.all fun e => e.1.1 != e.1.2.2.1 || !e.2.2) = true := by decide +kernel
theorem jfld_own {k i s : Nat} (h : (jFldT.getD k []).lookup i = some (k, s)) : Cond.fieldLink (jC k) i (jT k s).1 (jT k s).2.1 (jT k s).2.2.1 ∈ jTs := by
  have h1 := jlookup_mem _ _ _ h
  have h2 := List.all_eq_true.mp jFldT_ok _ (jmem_getD h1)
  have h3 := List.all_eq_true.mp h2 _ h1
  obtain ⟨e, he, h4⟩ := List.any_eq_true.mp h3
  have h5 := List.all_eq_true.mp jFldC_ok _ he
  have h8 := List.all_eq_true.mp jFldC_own _ he
  have h6 : e.1 = (k, (i, (k, s))) := of_decide_eq_true h4
  rw [h6] at h5 h8
  simp only [jFldOk, Bool.and_eq_true, Nat.blt_eq] at h5
  have h7 := h5.2
  cases hb : e.2.2
  · rw [hb] at h7
    exact jAt_mem h7
  · rw [hb] at h8
    simp at h8
def jMOk (m a b c d : Nat) : Bool := (jAt b (.initialized (jYT.getD m objectInit).cls) && (if jStatT.getD m false then jAt c (.static (jYT.getD m objectInit)) else jAt c (.instanceMethod (jYT.getD m objectInit)))) && ((if jStatT.getD m false || jInitT.getD m false then true else jAt d (.selects (jC (jOwn m)) (jYT.getD m objectInit) (jYT.getD m objectInit))) && (decide ((parseMethodDescriptor (jYT.getD m objectInit).desc).map (fun x => x.parameters.length) = some (jParT.getD m 0)) && (decide ((jYT.getD m objectInit).name = "<init>") == jInitT.getD m false) && (jYT.getD m objectInit).cls == jC (jOwn m) && decide ((jYT.getD m objectInit).cls ≠ "java/lang/invoke/MethodHandle" ∧ (jYT.getD m objectInit).cls ≠ "java/lang/invoke/VarHandle") && plainName (jYT.getD m objectInit).cls))
theorem jmk0 : jMOk 0 396 73 395 0 = true := by decide +kernel
set_option maxRecDepth 100000 in
theorem jcd0 : lw_tbl[396]? = some (Cond.code (jYT.getD 0 objectInit) (jBytesT.getD 0 .empty) (jMaxT.getD 0 0) (jRetT.getD 0 none)) := rfl
theorem jmk1 : jMOk 1 975 73 973 974 = true := by decide +kernel
set_option maxRecDepth 100000 in
theorem jcd1 : lw_tbl[975]? = some (Cond.code (jYT.getD 1 objectInit) (jBytesT.getD 1 .empty) (jMaxT.getD 1 0) (jRetT.getD 1 none)) := rfl
theorem jmk2 : jMOk 2 982 73 981 0 = true := by decide +kernel
set_option maxRecDepth 100000 in
theorem jcd2 : lw_tbl[982]? = some (Cond.code (jYT.getD 2 objectInit) (jBytesT.getD 2 .empty) (jMaxT.getD 2 0) (jRetT.getD 2 none)) := rfl
theorem jmk3 : jMOk 3 978 73 977 0 = true := by decide +kernel
set_option maxRecDepth 100000 in
theorem jcd3 : lw_tbl[978]? = some (Cond.code (jYT.getD 3 objectInit) (jBytesT.getD 3 .empty) (jMaxT.getD 3 0) (jRetT.getD 3 none)) := rfl
theorem jmk4 : jMOk 4 988 73 987 0 = true := by decide +kernel
set_option maxRecDepth 100000 in
theorem jcd4 : lw_tbl[988]? = some (Cond.code (jYT.getD 4 objectInit) (jBytesT.getD 4 .empty) (jMaxT.getD 4 0) (jRetT.getD 4 none)) := rfl
theorem jmk5 : jMOk 5 996 73 994 995 = true := by decide +kernel
set_option maxRecDepth 100000 in
theorem jcd5 : lw_tbl[996]? = some (Cond.code (jYT.getD 5 objectInit) (jBytesT.getD 5 .empty) (jMaxT.getD 5 0) (jRetT.getD 5 none)) := rfl
theorem jmk6 : jMOk 6 1004 73 1003 24 = true := by decide +kernel
set_option maxRecDepth 100000 in
theorem jcd6 : lw_tbl[1004]? = some (Cond.code (jYT.getD 6 objectInit) (jBytesT.getD 6 .empty) (jMaxT.getD 6 0) (jRetT.getD 6 none)) := rfl
theorem jmk7 : jMOk 7 112 66 111 0 = true := by decide +kernel
set_option maxRecDepth 100000 in
theorem jcd7 : lw_tbl[112]? = some (Cond.code (jYT.getD 7 objectInit) (jBytesT.getD 7 .empty) (jMaxT.getD 7 0) (jRetT.getD 7 none)) := rfl
theorem jmk8 : jMOk 8 482 66 480 481 = true := by decide +kernel
set_option maxRecDepth 100000 in
theorem jcd8 : lw_tbl[482]? = some (Cond.code (jYT.getD 8 objectInit) (jBytesT.getD 8 .empty) (jMaxT.getD 8 0) (jRetT.getD 8 none)) := rfl
theorem jmk9 : jMOk 9 571 66 569 570 = true := by decide +kernel
set_option maxRecDepth 100000 in
theorem jcd9 : lw_tbl[571]? = some (Cond.code (jYT.getD 9 objectInit) (jBytesT.getD 9 .empty) (jMaxT.getD 9 0) (jRetT.getD 9 none)) := rfl
theorem jmk10 : jMOk 10 524 66 522 523 = true := by decide +kernel
set_option maxRecDepth 100000 in
theorem jcd10 : lw_tbl[524]? = some (Cond.code (jYT.getD 10 objectInit) (jBytesT.getD 10 .empty) (jMaxT.getD 10 0) (jRetT.getD 10 none)) := rfl
theorem jmk11 : jMOk 11 533 66 531 532 = true := by decide +kernel
set_option maxRecDepth 100000 in
theorem jcd11 : lw_tbl[533]? = some (Cond.code (jYT.getD 11 objectInit) (jBytesT.getD 11 .empty) (jMaxT.getD 11 0) (jRetT.getD 11 none)) := rfl
theorem jmk12 : jMOk 12 541 66 539 540 = true := by decide +kernel
set_option maxRecDepth 100000 in
theorem jcd12 : lw_tbl[541]? = some (Cond.code (jYT.getD 12 objectInit) (jBytesT.getD 12 .empty) (jMaxT.getD 12 0) (jRetT.getD 12 none)) := rfl
theorem jmk13 : jMOk 13 651 66 649 650 = true := by decide +kernel
set_option maxRecDepth 100000 in
theorem jcd13 : lw_tbl[651]? = some (Cond.code (jYT.getD 13 objectInit) (jBytesT.getD 13 .empty) (jMaxT.getD 13 0) (jRetT.getD 13 none)) := rfl
theorem jmk14 : jMOk 14 643 66 641 642 = true := by decide +kernel
set_option maxRecDepth 100000 in
theorem jcd14 : lw_tbl[643]? = some (Cond.code (jYT.getD 14 objectInit) (jBytesT.getD 14 .empty) (jMaxT.getD 14 0) (jRetT.getD 14 none)) := rfl
theorem jmk15 : jMOk 15 655 66 653 654 = true := by decide +kernel
set_option maxRecDepth 100000 in
theorem jcd15 : lw_tbl[655]? = some (Cond.code (jYT.getD 15 objectInit) (jBytesT.getD 15 .empty) (jMaxT.getD 15 0) (jRetT.getD 15 none)) := rfl
theorem jmk16 : jMOk 16 546 66 544 545 = true := by decide +kernel
set_option maxRecDepth 100000 in
theorem jcd16 : lw_tbl[546]? = some (Cond.code (jYT.getD 16 objectInit) (jBytesT.getD 16 .empty) (jMaxT.getD 16 0) (jRetT.getD 16 none)) := rfl
theorem jmk17 : jMOk 17 555 66 553 554 = true := by decide +kernel
set_option maxRecDepth 100000 in
theorem jcd17 : lw_tbl[555]? = some (Cond.code (jYT.getD 17 objectInit) (jBytesT.getD 17 .empty) (jMaxT.getD 17 0) (jRetT.getD 17 none)) := rfl
theorem jmk18 : jMOk 18 729 66 727 728 = true := by decide +kernel
set_option maxRecDepth 100000 in
theorem jcd18 : lw_tbl[729]? = some (Cond.code (jYT.getD 18 objectInit) (jBytesT.getD 18 .empty) (jMaxT.getD 18 0) (jRetT.getD 18 none)) := rfl
theorem jmk19 : jMOk 19 778 66 776 777 = true := by decide +kernel
set_option maxRecDepth 100000 in
theorem jcd19 : lw_tbl[778]? = some (Cond.code (jYT.getD 19 objectInit) (jBytesT.getD 19 .empty) (jMaxT.getD 19 0) (jRetT.getD 19 none)) := rfl
theorem jmk20 : jMOk 20 791 66 789 790 = true := by decide +kernel
set_option maxRecDepth 100000 in
theorem jcd20 : lw_tbl[791]? = some (Cond.code (jYT.getD 20 objectInit) (jBytesT.getD 20 .empty) (jMaxT.getD 20 0) (jRetT.getD 20 none)) := rfl
theorem jmk21 : jMOk 21 795 66 793 794 = true := by decide +kernel
set_option maxRecDepth 100000 in
theorem jcd21 : lw_tbl[795]? = some (Cond.code (jYT.getD 21 objectInit) (jBytesT.getD 21 .empty) (jMaxT.getD 21 0) (jRetT.getD 21 none)) := rfl
theorem jmk22 : jMOk 22 746 66 744 745 = true := by decide +kernel
set_option maxRecDepth 100000 in
theorem jcd22 : lw_tbl[746]? = some (Cond.code (jYT.getD 22 objectInit) (jBytesT.getD 22 .empty) (jMaxT.getD 22 0) (jRetT.getD 22 none)) := rfl
theorem jmk23 : jMOk 23 931 66 929 930 = true := by decide +kernel
set_option maxRecDepth 100000 in
theorem jcd23 : lw_tbl[931]? = some (Cond.code (jYT.getD 23 objectInit) (jBytesT.getD 23 .empty) (jMaxT.getD 23 0) (jRetT.getD 23 none)) := rfl
theorem jmk24 : jMOk 24 760 66 758 759 = true := by decide +kernel
set_option maxRecDepth 100000 in
theorem jcd24 : lw_tbl[760]? = some (Cond.code (jYT.getD 24 objectInit) (jBytesT.getD 24 .empty) (jMaxT.getD 24 0) (jRetT.getD 24 none)) := rfl
theorem jmk25 : jMOk 25 742 66 740 741 = true := by decide +kernel
set_option maxRecDepth 100000 in
theorem jcd25 : lw_tbl[742]? = some (Cond.code (jYT.getD 25 objectInit) (jBytesT.getD 25 .empty) (jMaxT.getD 25 0) (jRetT.getD 25 none)) := rfl
theorem jmk26 : jMOk 26 751 66 749 750 = true := by decide +kernel
set_option maxRecDepth 100000 in
theorem jcd26 : lw_tbl[751]? = some (Cond.code (jYT.getD 26 objectInit) (jBytesT.getD 26 .empty) (jMaxT.getD 26 0) (jRetT.getD 26 none)) := rfl
theorem jmk27 : jMOk 27 770 66 768 769 = true := by decide +kernel
set_option maxRecDepth 100000 in
theorem jcd27 : lw_tbl[770]? = some (Cond.code (jYT.getD 27 objectInit) (jBytesT.getD 27 .empty) (jMaxT.getD 27 0) (jRetT.getD 27 none)) := rfl
theorem jmk28 : jMOk 28 756 66 754 755 = true := by decide +kernel
set_option maxRecDepth 100000 in
theorem jcd28 : lw_tbl[756]? = some (Cond.code (jYT.getD 28 objectInit) (jBytesT.getD 28 .empty) (jMaxT.getD 28 0) (jRetT.getD 28 none)) := rfl
theorem jmk29 : jMOk 29 765 66 764 13 = true := by decide +kernel
set_option maxRecDepth 100000 in
theorem jcd29 : lw_tbl[765]? = some (Cond.code (jYT.getD 29 objectInit) (jBytesT.getD 29 .empty) (jMaxT.getD 29 0) (jRetT.getD 29 none)) := rfl
theorem jmk30 : jMOk 30 229 67 228 0 = true := by decide +kernel
set_option maxRecDepth 100000 in
theorem jcd30 : lw_tbl[229]? = some (Cond.code (jYT.getD 30 objectInit) (jBytesT.getD 30 .empty) (jMaxT.getD 30 0) (jRetT.getD 30 none)) := rfl
theorem jmk31 : jMOk 31 718 67 716 717 = true := by decide +kernel
set_option maxRecDepth 100000 in
theorem jcd31 : lw_tbl[718]? = some (Cond.code (jYT.getD 31 objectInit) (jBytesT.getD 31 .empty) (jMaxT.getD 31 0) (jRetT.getD 31 none)) := rfl
theorem jmk32 : jMOk 32 803 67 801 802 = true := by decide +kernel
set_option maxRecDepth 100000 in
theorem jcd32 : lw_tbl[803]? = some (Cond.code (jYT.getD 32 objectInit) (jBytesT.getD 32 .empty) (jMaxT.getD 32 0) (jRetT.getD 32 none)) := rfl
theorem jmk33 : jMOk 33 341 71 340 0 = true := by decide +kernel
set_option maxRecDepth 100000 in
theorem jcd33 : lw_tbl[341]? = some (Cond.code (jYT.getD 33 objectInit) (jBytesT.getD 33 .empty) (jMaxT.getD 33 0) (jRetT.getD 33 none)) := rfl
theorem jmk34 : jMOk 34 851 71 849 850 = true := by decide +kernel
set_option maxRecDepth 100000 in
theorem jcd34 : lw_tbl[851]? = some (Cond.code (jYT.getD 34 objectInit) (jBytesT.getD 34 .empty) (jMaxT.getD 34 0) (jRetT.getD 34 none)) := rfl
theorem jmk35 : jMOk 35 855 71 854 18 = true := by decide +kernel
set_option maxRecDepth 100000 in
theorem jcd35 : lw_tbl[855]? = some (Cond.code (jYT.getD 35 objectInit) (jBytesT.getD 35 .empty) (jMaxT.getD 35 0) (jRetT.getD 35 none)) := rfl
theorem jmk36 : jMOk 36 863 71 862 19 = true := by decide +kernel
set_option maxRecDepth 100000 in
theorem jcd36 : lw_tbl[863]? = some (Cond.code (jYT.getD 36 objectInit) (jBytesT.getD 36 .empty) (jMaxT.getD 36 0) (jRetT.getD 36 none)) := rfl
theorem jmk37 : jMOk 37 868 71 867 20 = true := by decide +kernel
set_option maxRecDepth 100000 in
theorem jcd37 : lw_tbl[868]? = some (Cond.code (jYT.getD 37 objectInit) (jBytesT.getD 37 .empty) (jMaxT.getD 37 0) (jRetT.getD 37 none)) := rfl
theorem jmk38 : jMOk 38 268 69 267 0 = true := by decide +kernel
set_option maxRecDepth 100000 in
theorem jcd38 : lw_tbl[268]? = some (Cond.code (jYT.getD 38 objectInit) (jBytesT.getD 38 .empty) (jMaxT.getD 38 0) (jRetT.getD 38 none)) := rfl
theorem jmk39 : jMOk 39 667 69 665 666 = true := by decide +kernel
set_option maxRecDepth 100000 in
theorem jcd39 : lw_tbl[667]? = some (Cond.code (jYT.getD 39 objectInit) (jBytesT.getD 39 .empty) (jMaxT.getD 39 0) (jRetT.getD 39 none)) := rfl
theorem jmk40 : jMOk 40 830 69 828 829 = true := by decide +kernel
set_option maxRecDepth 100000 in
theorem jcd40 : lw_tbl[830]? = some (Cond.code (jYT.getD 40 objectInit) (jBytesT.getD 40 .empty) (jMaxT.getD 40 0) (jRetT.getD 40 none)) := rfl
theorem jmk41 : jMOk 41 663 69 661 662 = true := by decide +kernel
set_option maxRecDepth 100000 in
theorem jcd41 : lw_tbl[663]? = some (Cond.code (jYT.getD 41 objectInit) (jBytesT.getD 41 .empty) (jMaxT.getD 41 0) (jRetT.getD 41 none)) := rfl
theorem jmk42 : jMOk 42 672 69 670 671 = true := by decide +kernel
set_option maxRecDepth 100000 in
theorem jcd42 : lw_tbl[672]? = some (Cond.code (jYT.getD 42 objectInit) (jBytesT.getD 42 .empty) (jMaxT.getD 42 0) (jRetT.getD 42 none)) := rfl
theorem jmk43 : jMOk 43 705 69 703 704 = true := by decide +kernel
set_option maxRecDepth 100000 in
theorem jcd43 : lw_tbl[705]? = some (Cond.code (jYT.getD 43 objectInit) (jBytesT.getD 43 .empty) (jMaxT.getD 43 0) (jRetT.getD 43 none)) := rfl
theorem jmk44 : jMOk 44 676 69 675 8 = true := by decide +kernel
set_option maxRecDepth 100000 in
theorem jcd44 : lw_tbl[676]? = some (Cond.code (jYT.getD 44 objectInit) (jBytesT.getD 44 .empty) (jMaxT.getD 44 0) (jRetT.getD 44 none)) := rfl
theorem jmk45 : jMOk 45 685 69 684 9 = true := by decide +kernel
set_option maxRecDepth 100000 in
theorem jcd45 : lw_tbl[685]? = some (Cond.code (jYT.getD 45 objectInit) (jBytesT.getD 45 .empty) (jMaxT.getD 45 0) (jRetT.getD 45 none)) := rfl
theorem jmk46 : jMOk 46 689 69 688 10 = true := by decide +kernel
set_option maxRecDepth 100000 in
theorem jcd46 : lw_tbl[689]? = some (Cond.code (jYT.getD 46 objectInit) (jBytesT.getD 46 .empty) (jMaxT.getD 46 0) (jRetT.getD 46 none)) := rfl
theorem jmk47 : jMOk 47 697 69 696 11 = true := by decide +kernel
set_option maxRecDepth 100000 in
theorem jcd47 : lw_tbl[697]? = some (Cond.code (jYT.getD 47 objectInit) (jBytesT.getD 47 .empty) (jMaxT.getD 47 0) (jRetT.getD 47 none)) := rfl
theorem jmk48 : jMOk 48 371 72 370 0 = true := by decide +kernel
set_option maxRecDepth 100000 in
theorem jcd48 : lw_tbl[371]? = some (Cond.code (jYT.getD 48 objectInit) (jBytesT.getD 48 .empty) (jMaxT.getD 48 0) (jRetT.getD 48 none)) := rfl
theorem jmk49 : jMOk 49 878 72 876 877 = true := by decide +kernel
set_option maxRecDepth 100000 in
theorem jcd49 : lw_tbl[878]? = some (Cond.code (jYT.getD 49 objectInit) (jBytesT.getD 49 .empty) (jMaxT.getD 49 0) (jRetT.getD 49 none)) := rfl
theorem jmk50 : jMOk 50 902 72 900 901 = true := by decide +kernel
set_option maxRecDepth 100000 in
theorem jcd50 : lw_tbl[902]? = some (Cond.code (jYT.getD 50 objectInit) (jBytesT.getD 50 .empty) (jMaxT.getD 50 0) (jRetT.getD 50 none)) := rfl
theorem jmk51 : jMOk 51 912 72 910 911 = true := by decide +kernel
set_option maxRecDepth 100000 in
theorem jcd51 : lw_tbl[912]? = some (Cond.code (jYT.getD 51 objectInit) (jBytesT.getD 51 .empty) (jMaxT.getD 51 0) (jRetT.getD 51 none)) := rfl
theorem jmk52 : jMOk 52 921 72 919 920 = true := by decide +kernel
set_option maxRecDepth 100000 in
theorem jcd52 : lw_tbl[921]? = some (Cond.code (jYT.getD 52 objectInit) (jBytesT.getD 52 .empty) (jMaxT.getD 52 0) (jRetT.getD 52 none)) := rfl
theorem jmk53 : jMOk 53 925 72 924 22 = true := by decide +kernel
set_option maxRecDepth 100000 in
theorem jcd53 : lw_tbl[925]? = some (Cond.code (jYT.getD 53 objectInit) (jBytesT.getD 53 .empty) (jMaxT.getD 53 0) (jRetT.getD 53 none)) := rfl
theorem jmk54 : jMOk 54 953 72 951 952 = true := by decide +kernel
set_option maxRecDepth 100000 in
theorem jcd54 : lw_tbl[953]? = some (Cond.code (jYT.getD 54 objectInit) (jBytesT.getD 54 .empty) (jMaxT.getD 54 0) (jRetT.getD 54 none)) := rfl
theorem jmk55 : jMOk 55 967 72 965 966 = true := by decide +kernel
set_option maxRecDepth 100000 in
theorem jcd55 : lw_tbl[967]? = some (Cond.code (jYT.getD 55 objectInit) (jBytesT.getD 55 .empty) (jMaxT.getD 55 0) (jRetT.getD 55 none)) := rfl
theorem jmk56 : jMOk 56 957 72 956 23 = true := by decide +kernel
set_option maxRecDepth 100000 in
theorem jcd56 : lw_tbl[957]? = some (Cond.code (jYT.getD 56 objectInit) (jBytesT.getD 56 .empty) (jMaxT.getD 56 0) (jRetT.getD 56 none)) := rfl
theorem jmk57 : jMOk 57 891 72 890 21 = true := by decide +kernel
set_option maxRecDepth 100000 in
theorem jcd57 : lw_tbl[891]? = some (Cond.code (jYT.getD 57 objectInit) (jBytesT.getD 57 .empty) (jMaxT.getD 57 0) (jRetT.getD 57 none)) := rfl
theorem jmk58 : jMOk 58 101 65 100 0 = true := by decide +kernel
set_option maxRecDepth 100000 in
theorem jcd58 : lw_tbl[101]? = some (Cond.code (jYT.getD 58 objectInit) (jBytesT.getD 58 .empty) (jMaxT.getD 58 0) (jRetT.getD 58 none)) := rfl
theorem jmk59 : jMOk 59 506 65 504 505 = true := by decide +kernel
set_option maxRecDepth 100000 in
theorem jcd59 : lw_tbl[506]? = some (Cond.code (jYT.getD 59 objectInit) (jBytesT.getD 59 .empty) (jMaxT.getD 59 0) (jRetT.getD 59 none)) := rfl
theorem jmk60 : jMOk 60 474 65 472 473 = true := by decide +kernel
set_option maxRecDepth 100000 in
theorem jcd60 : lw_tbl[474]? = some (Cond.code (jYT.getD 60 objectInit) (jBytesT.getD 60 .empty) (jMaxT.getD 60 0) (jRetT.getD 60 none)) := rfl
theorem jmk61 : jMOk 61 550 65 548 549 = true := by decide +kernel
set_option maxRecDepth 100000 in
theorem jcd61 : lw_tbl[550]? = some (Cond.code (jYT.getD 61 objectInit) (jBytesT.getD 61 .empty) (jMaxT.getD 61 0) (jRetT.getD 61 none)) := rfl
theorem jmk62 : jMOk 62 783 65 781 782 = true := by decide +kernel
set_option maxRecDepth 100000 in
theorem jcd62 : lw_tbl[783]? = some (Cond.code (jYT.getD 62 objectInit) (jBytesT.getD 62 .empty) (jMaxT.getD 62 0) (jRetT.getD 62 none)) := rfl
theorem jmk63 : jMOk 63 559 65 557 558 = true := by decide +kernel
set_option maxRecDepth 100000 in
theorem jcd63 : lw_tbl[559]? = some (Cond.code (jYT.getD 63 objectInit) (jBytesT.getD 63 .empty) (jMaxT.getD 63 0) (jRetT.getD 63 none)) := rfl
theorem jmk64 : jMOk 64 734 65 732 733 = true := by decide +kernel
set_option maxRecDepth 100000 in
theorem jcd64 : lw_tbl[734]? = some (Cond.code (jYT.getD 64 objectInit) (jBytesT.getD 64 .empty) (jMaxT.getD 64 0) (jRetT.getD 64 none)) := rfl
theorem jmk65 : jMOk 65 486 65 484 485 = true := by decide +kernel
set_option maxRecDepth 100000 in
theorem jcd65 : lw_tbl[486]? = some (Cond.code (jYT.getD 65 objectInit) (jBytesT.getD 65 .empty) (jMaxT.getD 65 0) (jRetT.getD 65 none)) := rfl
theorem jmk66 : jMOk 66 493 65 491 492 = true := by decide +kernel
set_option maxRecDepth 100000 in
theorem jcd66 : lw_tbl[493]? = some (Cond.code (jYT.getD 66 objectInit) (jBytesT.getD 66 .empty) (jMaxT.getD 66 0) (jRetT.getD 66 none)) := rfl
theorem jmk67 : jMOk 67 575 65 573 574 = true := by decide +kernel
set_option maxRecDepth 100000 in
theorem jcd67 : lw_tbl[575]? = some (Cond.code (jYT.getD 67 objectInit) (jBytesT.getD 67 .empty) (jMaxT.getD 67 0) (jRetT.getD 67 none)) := rfl
theorem jmk68 : jMOk 68 303 70 302 0 = true := by decide +kernel
set_option maxRecDepth 100000 in
theorem jcd68 : lw_tbl[303]? = some (Cond.code (jYT.getD 68 objectInit) (jBytesT.getD 68 .empty) (jMaxT.getD 68 0) (jRetT.getD 68 none)) := rfl
theorem jmk69 : jMOk 69 811 70 809 810 = true := by decide +kernel
set_option maxRecDepth 100000 in
theorem jcd69 : lw_tbl[811]? = some (Cond.code (jYT.getD 69 objectInit) (jBytesT.getD 69 .empty) (jMaxT.getD 69 0) (jRetT.getD 69 none)) := rfl
theorem jmk70 : jMOk 70 815 70 814 0 = true := by decide +kernel
set_option maxRecDepth 100000 in
theorem jcd70 : lw_tbl[815]? = some (Cond.code (jYT.getD 70 objectInit) (jBytesT.getD 70 .empty) (jMaxT.getD 70 0) (jRetT.getD 70 none)) := rfl
theorem jmk71 : jMOk 71 821 70 820 14 = true := by decide +kernel
set_option maxRecDepth 100000 in
theorem jcd71 : lw_tbl[821]? = some (Cond.code (jYT.getD 71 objectInit) (jBytesT.getD 71 .empty) (jMaxT.getD 71 0) (jRetT.getD 71 none)) := rfl
theorem jmk72 : jMOk 72 825 70 824 15 = true := by decide +kernel
set_option maxRecDepth 100000 in
theorem jcd72 : lw_tbl[825]? = some (Cond.code (jYT.getD 72 objectInit) (jBytesT.getD 72 .empty) (jMaxT.getD 72 0) (jRetT.getD 72 none)) := rfl
theorem jmk73 : jMOk 73 837 70 836 16 = true := by decide +kernel
set_option maxRecDepth 100000 in
theorem jcd73 : lw_tbl[837]? = some (Cond.code (jYT.getD 73 objectInit) (jBytesT.getD 73 .empty) (jMaxT.getD 73 0) (jRetT.getD 73 none)) := rfl
theorem jmk74 : jMOk 74 842 70 841 17 = true := by decide +kernel
set_option maxRecDepth 100000 in
theorem jcd74 : lw_tbl[842]? = some (Cond.code (jYT.getD 74 objectInit) (jBytesT.getD 74 .empty) (jMaxT.getD 74 0) (jRetT.getD 74 none)) := rfl
theorem jmk75 : jMOk 75 249 68 248 0 = true := by decide +kernel
set_option maxRecDepth 100000 in
theorem jcd75 : lw_tbl[249]? = some (Cond.code (jYT.getD 75 objectInit) (jBytesT.getD 75 .empty) (jMaxT.getD 75 0) (jRetT.getD 75 none)) := rfl
theorem jmk76 : jMOk 76 940 68 938 939 = true := by decide +kernel
set_option maxRecDepth 100000 in
theorem jcd76 : lw_tbl[940]? = some (Cond.code (jYT.getD 76 objectInit) (jBytesT.getD 76 .empty) (jMaxT.getD 76 0) (jRetT.getD 76 none)) := rfl
theorem jmk77 : jMOk 77 962 68 960 961 = true := by decide +kernel
set_option maxRecDepth 100000 in
theorem jcd77 : lw_tbl[962]? = some (Cond.code (jYT.getD 77 objectInit) (jBytesT.getD 77 .empty) (jMaxT.getD 77 0) (jRetT.getD 77 none)) := rfl
theorem jmk78 : jMOk 78 95 64 94 0 = true := by decide +kernel
set_option maxRecDepth 100000 in
theorem jcd78 : lw_tbl[95]? = some (Cond.code (jYT.getD 78 objectInit) (jBytesT.getD 78 .empty) (jMaxT.getD 78 0) (jRetT.getD 78 none)) := rfl
theorem jmk79 : jMOk 79 470 64 468 469 = true := by decide +kernel
set_option maxRecDepth 100000 in
theorem jcd79 : lw_tbl[470]? = some (Cond.code (jYT.getD 79 objectInit) (jBytesT.getD 79 .empty) (jMaxT.getD 79 0) (jRetT.getD 79 none)) := rfl
theorem jmk80 : jMOk 80 478 64 476 477 = true := by decide +kernel
set_option maxRecDepth 100000 in
theorem jcd80 : lw_tbl[478]? = some (Cond.code (jYT.getD 80 objectInit) (jBytesT.getD 80 .empty) (jMaxT.getD 80 0) (jRetT.getD 80 none)) := rfl
theorem jmk81 : jMOk 81 498 64 497 0 = true := by decide +kernel
set_option maxRecDepth 100000 in
theorem jcd81 : lw_tbl[498]? = some (Cond.code (jYT.getD 81 objectInit) (jBytesT.getD 81 .empty) (jMaxT.getD 81 0) (jRetT.getD 81 none)) := rfl
theorem jmk82 : jMOk 82 510 64 509 2 = true := by decide +kernel
set_option maxRecDepth 100000 in
theorem jcd82 : lw_tbl[510]? = some (Cond.code (jYT.getD 82 objectInit) (jBytesT.getD 82 .empty) (jMaxT.getD 82 0) (jRetT.getD 82 none)) := rfl
theorem jmk83 : jMOk 83 529 64 528 4 = true := by decide +kernel
set_option maxRecDepth 100000 in
theorem jcd83 : lw_tbl[529]? = some (Cond.code (jYT.getD 83 objectInit) (jBytesT.getD 83 .empty) (jMaxT.getD 83 0) (jRetT.getD 83 none)) := rfl
theorem jmk84 : jMOk 84 537 64 536 5 = true := by decide +kernel
set_option maxRecDepth 100000 in
theorem jcd84 : lw_tbl[537]? = some (Cond.code (jYT.getD 84 objectInit) (jBytesT.getD 84 .empty) (jMaxT.getD 84 0) (jRetT.getD 84 none)) := rfl
theorem jmk85 : jMOk 85 563 64 562 6 = true := by decide +kernel
set_option maxRecDepth 100000 in
theorem jcd85 : lw_tbl[563]? = some (Cond.code (jYT.getD 85 objectInit) (jBytesT.getD 85 .empty) (jMaxT.getD 85 0) (jRetT.getD 85 none)) := rfl
theorem jmk86 : jMOk 86 514 64 513 3 = true := by decide +kernel
set_option maxRecDepth 100000 in
theorem jcd86 : lw_tbl[514]? = some (Cond.code (jYT.getD 86 objectInit) (jBytesT.getD 86 .empty) (jMaxT.getD 86 0) (jRetT.getD 86 none)) := rfl
theorem jmk87 : jMOk 87 502 64 501 1 = true := by decide +kernel
set_option maxRecDepth 100000 in
theorem jcd87 : lw_tbl[502]? = some (Cond.code (jYT.getD 87 objectInit) (jBytesT.getD 87 .empty) (jMaxT.getD 87 0) (jRetT.getD 87 none)) := rfl
theorem jmk88 : jMOk 88 517 64 516 0 = true := by decide +kernel
set_option maxRecDepth 100000 in
theorem jcd88 : lw_tbl[517]? = some (Cond.code (jYT.getD 88 objectInit) (jBytesT.getD 88 .empty) (jMaxT.getD 88 0) (jRetT.getD 88 none)) := rfl
theorem jmk89 : jMOk 89 87 63 86 0 = true := by decide +kernel
set_option maxRecDepth 100000 in
theorem jcd89 : lw_tbl[87]? = some (Cond.code (jYT.getD 89 objectInit) (jBytesT.getD 89 .empty) (jMaxT.getD 89 0) (jRetT.getD 89 none)) := rfl
theorem jmk90 : jMOk 90 620 63 618 619 = true := by decide +kernel
set_option maxRecDepth 100000 in
theorem jcd90 : lw_tbl[620]? = some (Cond.code (jYT.getD 90 objectInit) (jBytesT.getD 90 .empty) (jMaxT.getD 90 0) (jRetT.getD 90 none)) := rfl
theorem jmk91 : jMOk 91 625 63 623 624 = true := by decide +kernel
set_option maxRecDepth 100000 in
theorem jcd91 : lw_tbl[625]? = some (Cond.code (jYT.getD 91 objectInit) (jBytesT.getD 91 .empty) (jMaxT.getD 91 0) (jRetT.getD 91 none)) := rfl
theorem jmk92 : jMOk 92 629 63 627 628 = true := by decide +kernel
set_option maxRecDepth 100000 in
theorem jcd92 : lw_tbl[629]? = some (Cond.code (jYT.getD 92 objectInit) (jBytesT.getD 92 .empty) (jMaxT.getD 92 0) (jRetT.getD 92 none)) := rfl
theorem jmk93 : jMOk 93 633 63 631 632 = true := by decide +kernel
set_option maxRecDepth 100000 in
theorem jcd93 : lw_tbl[633]? = some (Cond.code (jYT.getD 93 objectInit) (jBytesT.getD 93 .empty) (jMaxT.getD 93 0) (jRetT.getD 93 none)) := rfl
theorem jmk94 : jMOk 94 637 63 635 636 = true := by decide +kernel
set_option maxRecDepth 100000 in
theorem jcd94 : lw_tbl[637]? = some (Cond.code (jYT.getD 94 objectInit) (jBytesT.getD 94 .empty) (jMaxT.getD 94 0) (jRetT.getD 94 none)) := rfl
theorem jmk95 : jMOk 95 647 63 645 646 = true := by decide +kernel
set_option maxRecDepth 100000 in
theorem jcd95 : lw_tbl[647]? = some (Cond.code (jYT.getD 95 objectInit) (jBytesT.getD 95 .empty) (jMaxT.getD 95 0) (jRetT.getD 95 none)) := rfl
theorem jmk96 : jMOk 96 659 63 657 658 = true := by decide +kernel
set_option maxRecDepth 100000 in
theorem jcd96 : lw_tbl[659]? = some (Cond.code (jYT.getD 96 objectInit) (jBytesT.getD 96 .empty) (jMaxT.getD 96 0) (jRetT.getD 96 none)) := rfl
theorem jmk97 : jMOk 97 701 63 699 700 = true := by decide +kernel
set_option maxRecDepth 100000 in
theorem jcd97 : lw_tbl[701]? = some (Cond.code (jYT.getD 97 objectInit) (jBytesT.getD 97 .empty) (jMaxT.getD 97 0) (jRetT.getD 97 none)) := rfl
theorem jmk98 : jMOk 98 709 63 707 708 = true := by decide +kernel
set_option maxRecDepth 100000 in
theorem jcd98 : lw_tbl[709]? = some (Cond.code (jYT.getD 98 objectInit) (jBytesT.getD 98 .empty) (jMaxT.getD 98 0) (jRetT.getD 98 none)) := rfl
theorem jmk99 : jMOk 99 725 63 723 724 = true := by decide +kernel
set_option maxRecDepth 100000 in
theorem jcd99 : lw_tbl[725]? = some (Cond.code (jYT.getD 99 objectInit) (jBytesT.getD 99 .empty) (jMaxT.getD 99 0) (jRetT.getD 99 none)) := rfl
theorem jmk100 : jMOk 100 738 63 736 737 = true := by decide +kernel
set_option maxRecDepth 100000 in
theorem jcd100 : lw_tbl[738]? = some (Cond.code (jYT.getD 100 objectInit) (jBytesT.getD 100 .empty) (jMaxT.getD 100 0) (jRetT.getD 100 none)) := rfl
theorem jmk101 : jMOk 101 774 63 772 773 = true := by decide +kernel
set_option maxRecDepth 100000 in
theorem jcd101 : lw_tbl[774]? = some (Cond.code (jYT.getD 101 objectInit) (jBytesT.getD 101 .empty) (jMaxT.getD 101 0) (jRetT.getD 101 none)) := rfl
theorem jmk102 : jMOk 102 787 63 785 786 = true := by decide +kernel
set_option maxRecDepth 100000 in
theorem jcd102 : lw_tbl[787]? = some (Cond.code (jYT.getD 102 objectInit) (jBytesT.getD 102 .empty) (jMaxT.getD 102 0) (jRetT.getD 102 none)) := rfl
theorem jmk103 : jMOk 103 799 63 797 798 = true := by decide +kernel
set_option maxRecDepth 100000 in
theorem jcd103 : lw_tbl[799]? = some (Cond.code (jYT.getD 103 objectInit) (jBytesT.getD 103 .empty) (jMaxT.getD 103 0) (jRetT.getD 103 none)) := rfl
theorem jmk104 : jMOk 104 807 63 805 806 = true := by decide +kernel
set_option maxRecDepth 100000 in
theorem jcd104 : lw_tbl[807]? = some (Cond.code (jYT.getD 104 objectInit) (jBytesT.getD 104 .empty) (jMaxT.getD 104 0) (jRetT.getD 104 none)) := rfl
theorem jmk105 : jMOk 105 847 63 845 846 = true := by decide +kernel
set_option maxRecDepth 100000 in
theorem jcd105 : lw_tbl[847]? = some (Cond.code (jYT.getD 105 objectInit) (jBytesT.getD 105 .empty) (jMaxT.getD 105 0) (jRetT.getD 105 none)) := rfl
theorem jmk106 : jMOk 106 874 63 872 873 = true := by decide +kernel
set_option maxRecDepth 100000 in
theorem jcd106 : lw_tbl[874]? = some (Cond.code (jYT.getD 106 objectInit) (jBytesT.getD 106 .empty) (jMaxT.getD 106 0) (jRetT.getD 106 none)) := rfl
theorem jmk107 : jMOk 107 898 63 896 897 = true := by decide +kernel
set_option maxRecDepth 100000 in
theorem jcd107 : lw_tbl[898]? = some (Cond.code (jYT.getD 107 objectInit) (jBytesT.getD 107 .empty) (jMaxT.getD 107 0) (jRetT.getD 107 none)) := rfl
theorem jmk108 : jMOk 108 908 63 906 907 = true := by decide +kernel
set_option maxRecDepth 100000 in
theorem jcd108 : lw_tbl[908]? = some (Cond.code (jYT.getD 108 objectInit) (jBytesT.getD 108 .empty) (jMaxT.getD 108 0) (jRetT.getD 108 none)) := rfl
theorem jmk109 : jMOk 109 917 63 915 916 = true := by decide +kernel
set_option maxRecDepth 100000 in
theorem jcd109 : lw_tbl[917]? = some (Cond.code (jYT.getD 109 objectInit) (jBytesT.getD 109 .empty) (jMaxT.getD 109 0) (jRetT.getD 109 none)) := rfl
theorem jmk110 : jMOk 110 936 63 934 935 = true := by decide +kernel
set_option maxRecDepth 100000 in
theorem jcd110 : lw_tbl[936]? = some (Cond.code (jYT.getD 110 objectInit) (jBytesT.getD 110 .empty) (jMaxT.getD 110 0) (jRetT.getD 110 none)) := rfl
theorem jmk111 : jMOk 111 945 63 943 944 = true := by decide +kernel
set_option maxRecDepth 100000 in
theorem jcd111 : lw_tbl[945]? = some (Cond.code (jYT.getD 111 objectInit) (jBytesT.getD 111 .empty) (jMaxT.getD 111 0) (jRetT.getD 111 none)) := rfl
theorem jmk112 : jMOk 112 949 63 947 948 = true := by decide +kernel
set_option maxRecDepth 100000 in
theorem jcd112 : lw_tbl[949]? = some (Cond.code (jYT.getD 112 objectInit) (jBytesT.getD 112 .empty) (jMaxT.getD 112 0) (jRetT.getD 112 none)) := rfl
theorem jmk113 : jMOk 113 971 63 969 970 = true := by decide +kernel
set_option maxRecDepth 100000 in
theorem jcd113 : lw_tbl[971]? = some (Cond.code (jYT.getD 113 objectInit) (jBytesT.getD 113 .empty) (jMaxT.getD 113 0) (jRetT.getD 113 none)) := rfl
theorem jmk114 : jMOk 114 992 63 990 991 = true := by decide +kernel
set_option maxRecDepth 100000 in
theorem jcd114 : lw_tbl[992]? = some (Cond.code (jYT.getD 114 objectInit) (jBytesT.getD 114 .empty) (jMaxT.getD 114 0) (jRetT.getD 114 none)) := rfl
theorem jmk115 : jMOk 115 1017 63 1015 1016 = true := by decide +kernel
set_option maxRecDepth 100000 in
theorem jcd115 : lw_tbl[1017]? = some (Cond.code (jYT.getD 115 objectInit) (jBytesT.getD 115 .empty) (jMaxT.getD 115 0) (jRetT.getD 115 none)) := rfl
theorem jmk116 : jMOk 116 1021 63 1019 1020 = true := by decide +kernel
set_option maxRecDepth 100000 in
theorem jcd116 : lw_tbl[1021]? = some (Cond.code (jYT.getD 116 objectInit) (jBytesT.getD 116 .empty) (jMaxT.getD 116 0) (jRetT.getD 116 none)) := rfl
theorem jmk117 : jMOk 117 1025 63 1023 1024 = true := by decide +kernel
set_option maxRecDepth 100000 in
theorem jcd117 : lw_tbl[1025]? = some (Cond.code (jYT.getD 117 objectInit) (jBytesT.getD 117 .empty) (jMaxT.getD 117 0) (jRetT.getD 117 none)) := rfl
theorem jmk118 : jMOk 118 567 63 566 7 = true := by decide +kernel
set_option maxRecDepth 100000 in
theorem jcd118 : lw_tbl[567]? = some (Cond.code (jYT.getD 118 objectInit) (jBytesT.getD 118 .empty) (jMaxT.getD 118 0) (jRetT.getD 118 none)) := rfl
theorem jmk119 : jMOk 119 714 63 713 12 = true := by decide +kernel
set_option maxRecDepth 100000 in
theorem jcd119 : lw_tbl[714]? = some (Cond.code (jYT.getD 119 objectInit) (jBytesT.getD 119 .empty) (jMaxT.getD 119 0) (jRetT.getD 119 none)) := rfl
theorem jmk120 : jMOk 120 520 63 519 0 = true := by decide +kernel
set_option maxRecDepth 100000 in
theorem jcd120 : lw_tbl[520]? = some (Cond.code (jYT.getD 120 objectInit) (jBytesT.getD 120 .empty) (jMaxT.getD 120 0) (jRetT.getD 120 none)) := rfl
theorem jmk121 : jMOk 121 681 63 680 0 = true := by decide +kernel
set_option maxRecDepth 100000 in
theorem jcd121 : lw_tbl[681]? = some (Cond.code (jYT.getD 121 objectInit) (jBytesT.getD 121 .empty) (jMaxT.getD 121 0) (jRetT.getD 121 none)) := rfl
theorem jmk122 : jMOk 122 1031 81 1030 0 = true := by decide +kernel
set_option maxRecDepth 100000 in
theorem jcd122 : lw_tbl[1031]? = some (Cond.code (jYT.getD 122 objectInit) (jBytesT.getD 122 .empty) (jMaxT.getD 122 0) (jRetT.getD 122 none)) := rfl
theorem jmk123 : jMOk 123 1151 81 1150 0 = true := by decide +kernel
set_option maxRecDepth 100000 in
theorem jcd123 : lw_tbl[1151]? = some (Cond.code (jYT.getD 123 objectInit) (jBytesT.getD 123 .empty) (jMaxT.getD 123 0) (jRetT.getD 123 none)) := rfl
theorem jmk124 : jMOk 124 1148 81 1146 1147 = true := by decide +kernel
set_option maxRecDepth 100000 in
theorem jcd124 : lw_tbl[1148]? = some (Cond.code (jYT.getD 124 objectInit) (jBytesT.getD 124 .empty) (jMaxT.getD 124 0) (jRetT.getD 124 none)) := rfl
theorem jmk125 : jMOk 125 1155 81 1153 1154 = true := by decide +kernel
set_option maxRecDepth 100000 in
theorem jcd125 : lw_tbl[1155]? = some (Cond.code (jYT.getD 125 objectInit) (jBytesT.getD 125 .empty) (jMaxT.getD 125 0) (jRetT.getD 125 none)) := rfl
theorem jmk126 : jMOk 126 1171 81 1170 32 = true := by decide +kernel
set_option maxRecDepth 100000 in
theorem jcd126 : lw_tbl[1171]? = some (Cond.code (jYT.getD 126 objectInit) (jBytesT.getD 126 .empty) (jMaxT.getD 126 0) (jRetT.getD 126 none)) := rfl
theorem jmk127 : jMOk 127 1183 81 1182 35 = true := by decide +kernel
set_option maxRecDepth 100000 in
theorem jcd127 : lw_tbl[1183]? = some (Cond.code (jYT.getD 127 objectInit) (jBytesT.getD 127 .empty) (jMaxT.getD 127 0) (jRetT.getD 127 none)) := rfl
theorem jmk128 : jMOk 128 1187 81 1186 36 = true := by decide +kernel
set_option maxRecDepth 100000 in
theorem jcd128 : lw_tbl[1187]? = some (Cond.code (jYT.getD 128 objectInit) (jBytesT.getD 128 .empty) (jMaxT.getD 128 0) (jRetT.getD 128 none)) := rfl
theorem jmk129 : jMOk 129 1179 81 1178 34 = true := by decide +kernel
set_option maxRecDepth 100000 in
theorem jcd129 : lw_tbl[1179]? = some (Cond.code (jYT.getD 129 objectInit) (jBytesT.getD 129 .empty) (jMaxT.getD 129 0) (jRetT.getD 129 none)) := rfl
theorem jmk130 : jMOk 130 1175 81 1174 33 = true := by decide +kernel
set_option maxRecDepth 100000 in
theorem jcd130 : lw_tbl[1175]? = some (Cond.code (jYT.getD 130 objectInit) (jBytesT.getD 130 .empty) (jMaxT.getD 130 0) (jRetT.getD 130 none)) := rfl
theorem jmk131 : jMOk 131 1191 81 1190 37 = true := by decide +kernel
set_option maxRecDepth 100000 in
theorem jcd131 : lw_tbl[1191]? = some (Cond.code (jYT.getD 131 objectInit) (jBytesT.getD 131 .empty) (jMaxT.getD 131 0) (jRetT.getD 131 none)) := rfl
theorem jmk132 : jMOk 132 1195 81 1194 38 = true := by decide +kernel
set_option maxRecDepth 100000 in
theorem jcd132 : lw_tbl[1195]? = some (Cond.code (jYT.getD 132 objectInit) (jBytesT.getD 132 .empty) (jMaxT.getD 132 0) (jRetT.getD 132 none)) := rfl
theorem jmk133 : jMOk 133 1167 81 1166 31 = true := by decide +kernel
set_option maxRecDepth 100000 in
theorem jcd133 : lw_tbl[1167]? = some (Cond.code (jYT.getD 133 objectInit) (jBytesT.getD 133 .empty) (jMaxT.getD 133 0) (jRetT.getD 133 none)) := rfl
theorem jmk134 : jMOk 134 1163 81 1162 30 = true := by decide +kernel
set_option maxRecDepth 100000 in
theorem jcd134 : lw_tbl[1163]? = some (Cond.code (jYT.getD 134 objectInit) (jBytesT.getD 134 .empty) (jMaxT.getD 134 0) (jRetT.getD 134 none)) := rfl
theorem jmk135 : jMOk 135 1159 81 1157 1158 = true := by decide +kernel
set_option maxRecDepth 100000 in
theorem jcd135 : lw_tbl[1159]? = some (Cond.code (jYT.getD 135 objectInit) (jBytesT.getD 135 .empty) (jMaxT.getD 135 0) (jRetT.getD 135 none)) := rfl
theorem jmk136 : jMOk 136 1040 81 1039 26 = true := by decide +kernel
set_option maxRecDepth 100000 in
theorem jcd136 : lw_tbl[1040]? = some (Cond.code (jYT.getD 136 objectInit) (jBytesT.getD 136 .empty) (jMaxT.getD 136 0) (jRetT.getD 136 none)) := rfl
theorem jmk137 : jMOk 137 1044 81 1043 27 = true := by decide +kernel
set_option maxRecDepth 100000 in
theorem jcd137 : lw_tbl[1044]? = some (Cond.code (jYT.getD 137 objectInit) (jBytesT.getD 137 .empty) (jMaxT.getD 137 0) (jRetT.getD 137 none)) := rfl
theorem jmk138 : jMOk 138 1048 81 1047 28 = true := by decide +kernel
set_option maxRecDepth 100000 in
theorem jcd138 : lw_tbl[1048]? = some (Cond.code (jYT.getD 138 objectInit) (jBytesT.getD 138 .empty) (jMaxT.getD 138 0) (jRetT.getD 138 none)) := rfl
theorem jmk139 : jMOk 139 1036 81 1035 25 = true := by decide +kernel
set_option maxRecDepth 100000 in
theorem jcd139 : lw_tbl[1036]? = some (Cond.code (jYT.getD 139 objectInit) (jBytesT.getD 139 .empty) (jMaxT.getD 139 0) (jRetT.getD 139 none)) := rfl
theorem jmk140 : jMOk 140 1052 81 1051 29 = true := by decide +kernel
set_option maxRecDepth 100000 in
theorem jcd140 : lw_tbl[1052]? = some (Cond.code (jYT.getD 140 objectInit) (jBytesT.getD 140 .empty) (jMaxT.getD 140 0) (jRetT.getD 140 none)) := rfl
theorem jmk141 : jMOk 141 1199 81 1197 1198 = true := by decide +kernel
set_option maxRecDepth 100000 in
theorem jcd141 : lw_tbl[1199]? = some (Cond.code (jYT.getD 141 objectInit) (jBytesT.getD 141 .empty) (jMaxT.getD 141 0) (jRetT.getD 141 none)) := rfl
theorem jmk142 : jMOk 142 1322 81 1321 54 = true := by decide +kernel
set_option maxRecDepth 100000 in
theorem jcd142 : lw_tbl[1322]? = some (Cond.code (jYT.getD 142 objectInit) (jBytesT.getD 142 .empty) (jMaxT.getD 142 0) (jRetT.getD 142 none)) := rfl
theorem jmk143 : jMOk 143 1207 81 1206 39 = true := by decide +kernel
set_option maxRecDepth 100000 in
theorem jcd143 : lw_tbl[1207]? = some (Cond.code (jYT.getD 143 objectInit) (jBytesT.getD 143 .empty) (jMaxT.getD 143 0) (jRetT.getD 143 none)) := rfl
theorem jmk144 : jMOk 144 1218 81 1217 40 = true := by decide +kernel
set_option maxRecDepth 100000 in
theorem jcd144 : lw_tbl[1218]? = some (Cond.code (jYT.getD 144 objectInit) (jBytesT.getD 144 .empty) (jMaxT.getD 144 0) (jRetT.getD 144 none)) := rfl
theorem jmk145 : jMOk 145 1210 81 1209 0 = true := by decide +kernel
set_option maxRecDepth 100000 in
theorem jcd145 : lw_tbl[1210]? = some (Cond.code (jYT.getD 145 objectInit) (jBytesT.getD 145 .empty) (jMaxT.getD 145 0) (jRetT.getD 145 none)) := rfl
theorem jmk146 : jMOk 146 1222 81 1221 41 = true := by decide +kernel
set_option maxRecDepth 100000 in
theorem jcd146 : lw_tbl[1222]? = some (Cond.code (jYT.getD 146 objectInit) (jBytesT.getD 146 .empty) (jMaxT.getD 146 0) (jRetT.getD 146 none)) := rfl
theorem jmk147 : jMOk 147 1349 81 1348 0 = true := by decide +kernel
set_option maxRecDepth 100000 in
theorem jcd147 : lw_tbl[1349]? = some (Cond.code (jYT.getD 147 objectInit) (jBytesT.getD 147 .empty) (jMaxT.getD 147 0) (jRetT.getD 147 none)) := rfl
theorem jmk148 : jMOk 148 1284 81 1283 50 = true := by decide +kernel
set_option maxRecDepth 100000 in
theorem jcd148 : lw_tbl[1284]? = some (Cond.code (jYT.getD 148 objectInit) (jBytesT.getD 148 .empty) (jMaxT.getD 148 0) (jRetT.getD 148 none)) := rfl
theorem jmk149 : jMOk 149 1365 81 1364 59 = true := by decide +kernel
set_option maxRecDepth 100000 in
theorem jcd149 : lw_tbl[1365]? = some (Cond.code (jYT.getD 149 objectInit) (jBytesT.getD 149 .empty) (jMaxT.getD 149 0) (jRetT.getD 149 none)) := rfl
theorem jmk150 : jMOk 150 1242 81 1241 45 = true := by decide +kernel
set_option maxRecDepth 100000 in
theorem jcd150 : lw_tbl[1242]? = some (Cond.code (jYT.getD 150 objectInit) (jBytesT.getD 150 .empty) (jMaxT.getD 150 0) (jRetT.getD 150 none)) := rfl
theorem jmk151 : jMOk 151 1234 81 1233 43 = true := by decide +kernel
set_option maxRecDepth 100000 in
theorem jcd151 : lw_tbl[1234]? = some (Cond.code (jYT.getD 151 objectInit) (jBytesT.getD 151 .empty) (jMaxT.getD 151 0) (jRetT.getD 151 none)) := rfl
theorem jmk152 : jMOk 152 1246 81 1245 46 = true := by decide +kernel
set_option maxRecDepth 100000 in
theorem jcd152 : lw_tbl[1246]? = some (Cond.code (jYT.getD 152 objectInit) (jBytesT.getD 152 .empty) (jMaxT.getD 152 0) (jRetT.getD 152 none)) := rfl
theorem jmk153 : jMOk 153 1238 81 1237 44 = true := by decide +kernel
set_option maxRecDepth 100000 in
theorem jcd153 : lw_tbl[1238]? = some (Cond.code (jYT.getD 153 objectInit) (jBytesT.getD 153 .empty) (jMaxT.getD 153 0) (jRetT.getD 153 none)) := rfl
theorem jmk154 : jMOk 154 1230 81 1229 42 = true := by decide +kernel
set_option maxRecDepth 100000 in
theorem jcd154 : lw_tbl[1230]? = some (Cond.code (jYT.getD 154 objectInit) (jBytesT.getD 154 .empty) (jMaxT.getD 154 0) (jRetT.getD 154 none)) := rfl
theorem jmk155 : jMOk 155 1254 81 1253 47 = true := by decide +kernel
set_option maxRecDepth 100000 in
theorem jcd155 : lw_tbl[1254]? = some (Cond.code (jYT.getD 155 objectInit) (jBytesT.getD 155 .empty) (jMaxT.getD 155 0) (jRetT.getD 155 none)) := rfl
theorem jmk156 : jMOk 156 1292 81 1291 52 = true := by decide +kernel
set_option maxRecDepth 100000 in
theorem jcd156 : lw_tbl[1292]? = some (Cond.code (jYT.getD 156 objectInit) (jBytesT.getD 156 .empty) (jMaxT.getD 156 0) (jRetT.getD 156 none)) := rfl
theorem jmk157 : jMOk 157 1280 81 1279 49 = true := by decide +kernel
set_option maxRecDepth 100000 in
theorem jcd157 : lw_tbl[1280]? = some (Cond.code (jYT.getD 157 objectInit) (jBytesT.getD 157 .empty) (jMaxT.getD 157 0) (jRetT.getD 157 none)) := rfl
theorem jmk158 : jMOk 158 1288 81 1287 51 = true := by decide +kernel
set_option maxRecDepth 100000 in
theorem jcd158 : lw_tbl[1288]? = some (Cond.code (jYT.getD 158 objectInit) (jBytesT.getD 158 .empty) (jMaxT.getD 158 0) (jRetT.getD 158 none)) := rfl
theorem jmk159 : jMOk 159 1203 81 1201 1202 = true := by decide +kernel
set_option maxRecDepth 100000 in
theorem jcd159 : lw_tbl[1203]? = some (Cond.code (jYT.getD 159 objectInit) (jBytesT.getD 159 .empty) (jMaxT.getD 159 0) (jRetT.getD 159 none)) := rfl
theorem jmk160 : jMOk 160 1214 81 1212 1213 = true := by decide +kernel
set_option maxRecDepth 100000 in
theorem jcd160 : lw_tbl[1214]? = some (Cond.code (jYT.getD 160 objectInit) (jBytesT.getD 160 .empty) (jMaxT.getD 160 0) (jRetT.getD 160 none)) := rfl
theorem jmk161 : jMOk 161 1226 81 1224 1225 = true := by decide +kernel
set_option maxRecDepth 100000 in
theorem jcd161 : lw_tbl[1226]? = some (Cond.code (jYT.getD 161 objectInit) (jBytesT.getD 161 .empty) (jMaxT.getD 161 0) (jRetT.getD 161 none)) := rfl
theorem jmk162 : jMOk 162 1250 81 1248 1249 = true := by decide +kernel
set_option maxRecDepth 100000 in
theorem jcd162 : lw_tbl[1250]? = some (Cond.code (jYT.getD 162 objectInit) (jBytesT.getD 162 .empty) (jMaxT.getD 162 0) (jRetT.getD 162 none)) := rfl
theorem jmk163 : jMOk 163 1262 81 1261 48 = true := by decide +kernel
set_option maxRecDepth 100000 in
theorem jcd163 : lw_tbl[1262]? = some (Cond.code (jYT.getD 163 objectInit) (jBytesT.getD 163 .empty) (jMaxT.getD 163 0) (jRetT.getD 163 none)) := rfl
theorem jmk164 : jMOk 164 1265 81 1264 0 = true := by decide +kernel
set_option maxRecDepth 100000 in
theorem jcd164 : lw_tbl[1265]? = some (Cond.code (jYT.getD 164 objectInit) (jBytesT.getD 164 .empty) (jMaxT.getD 164 0) (jRetT.getD 164 none)) := rfl
theorem jmk165 : jMOk 165 1272 81 1271 0 = true := by decide +kernel
set_option maxRecDepth 100000 in
theorem jcd165 : lw_tbl[1272]? = some (Cond.code (jYT.getD 165 objectInit) (jBytesT.getD 165 .empty) (jMaxT.getD 165 0) (jRetT.getD 165 none)) := rfl
theorem jmk166 : jMOk 166 1300 81 1299 53 = true := by decide +kernel
set_option maxRecDepth 100000 in
theorem jcd166 : lw_tbl[1300]? = some (Cond.code (jYT.getD 166 objectInit) (jBytesT.getD 166 .empty) (jMaxT.getD 166 0) (jRetT.getD 166 none)) := rfl
theorem jmk167 : jMOk 167 1307 81 1306 0 = true := by decide +kernel
set_option maxRecDepth 100000 in
theorem jcd167 : lw_tbl[1307]? = some (Cond.code (jYT.getD 167 objectInit) (jBytesT.getD 167 .empty) (jMaxT.getD 167 0) (jRetT.getD 167 none)) := rfl
theorem jmk168 : jMOk 168 1310 81 1309 0 = true := by decide +kernel
set_option maxRecDepth 100000 in
theorem jcd168 : lw_tbl[1310]? = some (Cond.code (jYT.getD 168 objectInit) (jBytesT.getD 168 .empty) (jMaxT.getD 168 0) (jRetT.getD 168 none)) := rfl
theorem jmk169 : jMOk 169 1258 81 1256 1257 = true := by decide +kernel
set_option maxRecDepth 100000 in
theorem jcd169 : lw_tbl[1258]? = some (Cond.code (jYT.getD 169 objectInit) (jBytesT.getD 169 .empty) (jMaxT.getD 169 0) (jRetT.getD 169 none)) := rfl
theorem jmk170 : jMOk 170 1269 81 1267 1268 = true := by decide +kernel
set_option maxRecDepth 100000 in
theorem jcd170 : lw_tbl[1269]? = some (Cond.code (jYT.getD 170 objectInit) (jBytesT.getD 170 .empty) (jMaxT.getD 170 0) (jRetT.getD 170 none)) := rfl
theorem jmk171 : jMOk 171 1276 81 1274 1275 = true := by decide +kernel
set_option maxRecDepth 100000 in
theorem jcd171 : lw_tbl[1276]? = some (Cond.code (jYT.getD 171 objectInit) (jBytesT.getD 171 .empty) (jMaxT.getD 171 0) (jRetT.getD 171 none)) := rfl
theorem jmk172 : jMOk 172 1296 81 1294 1295 = true := by decide +kernel
set_option maxRecDepth 100000 in
theorem jcd172 : lw_tbl[1296]? = some (Cond.code (jYT.getD 172 objectInit) (jBytesT.getD 172 .empty) (jMaxT.getD 172 0) (jRetT.getD 172 none)) := rfl
theorem jmk173 : jMOk 173 1304 81 1302 1303 = true := by decide +kernel
set_option maxRecDepth 100000 in
theorem jcd173 : lw_tbl[1304]? = some (Cond.code (jYT.getD 173 objectInit) (jBytesT.getD 173 .empty) (jMaxT.getD 173 0) (jRetT.getD 173 none)) := rfl
theorem jmk174 : jMOk 174 1314 81 1312 1313 = true := by decide +kernel
set_option maxRecDepth 100000 in
theorem jcd174 : lw_tbl[1314]? = some (Cond.code (jYT.getD 174 objectInit) (jBytesT.getD 174 .empty) (jMaxT.getD 174 0) (jRetT.getD 174 none)) := rfl
theorem jmk175 : jMOk 175 1334 81 1333 57 = true := by decide +kernel
set_option maxRecDepth 100000 in
theorem jcd175 : lw_tbl[1334]? = some (Cond.code (jYT.getD 175 objectInit) (jBytesT.getD 175 .empty) (jMaxT.getD 175 0) (jRetT.getD 175 none)) := rfl
theorem jmk176 : jMOk 176 1330 81 1329 56 = true := by decide +kernel
set_option maxRecDepth 100000 in
theorem jcd176 : lw_tbl[1330]? = some (Cond.code (jYT.getD 176 objectInit) (jBytesT.getD 176 .empty) (jMaxT.getD 176 0) (jRetT.getD 176 none)) := rfl
theorem jmk177 : jMOk 177 1326 81 1325 55 = true := by decide +kernel
set_option maxRecDepth 100000 in
theorem jcd177 : lw_tbl[1326]? = some (Cond.code (jYT.getD 177 objectInit) (jBytesT.getD 177 .empty) (jMaxT.getD 177 0) (jRetT.getD 177 none)) := rfl
theorem jmk178 : jMOk 178 1318 81 1316 1317 = true := by decide +kernel
set_option maxRecDepth 100000 in
theorem jcd178 : lw_tbl[1318]? = some (Cond.code (jYT.getD 178 objectInit) (jBytesT.getD 178 .empty) (jMaxT.getD 178 0) (jRetT.getD 178 none)) := rfl
theorem jmk179 : jMOk 179 1342 81 1341 58 = true := by decide +kernel
set_option maxRecDepth 100000 in
theorem jcd179 : lw_tbl[1342]? = some (Cond.code (jYT.getD 179 objectInit) (jBytesT.getD 179 .empty) (jMaxT.getD 179 0) (jRetT.getD 179 none)) := rfl
theorem jmk180 : jMOk 180 1338 81 1336 1337 = true := by decide +kernel
set_option maxRecDepth 100000 in
theorem jcd180 : lw_tbl[1338]? = some (Cond.code (jYT.getD 180 objectInit) (jBytesT.getD 180 .empty) (jMaxT.getD 180 0) (jRetT.getD 180 none)) := rfl
theorem jmk181 : jMOk 181 1346 81 1344 1345 = true := by decide +kernel
set_option maxRecDepth 100000 in
theorem jcd181 : lw_tbl[1346]? = some (Cond.code (jYT.getD 181 objectInit) (jBytesT.getD 181 .empty) (jMaxT.getD 181 0) (jRetT.getD 181 none)) := rfl
theorem jmk182 : jMOk 182 1353 81 1351 1352 = true := by decide +kernel
set_option maxRecDepth 100000 in
theorem jcd182 : lw_tbl[1353]? = some (Cond.code (jYT.getD 182 objectInit) (jBytesT.getD 182 .empty) (jMaxT.getD 182 0) (jRetT.getD 182 none)) := rfl
theorem jmk183 : jMOk 183 1357 81 1355 1356 = true := by decide +kernel
set_option maxRecDepth 100000 in
theorem jcd183 : lw_tbl[1357]? = some (Cond.code (jYT.getD 183 objectInit) (jBytesT.getD 183 .empty) (jMaxT.getD 183 0) (jRetT.getD 183 none)) := rfl
theorem jmk184 : jMOk 184 1361 81 1359 1360 = true := by decide +kernel
set_option maxRecDepth 100000 in
theorem jcd184 : lw_tbl[1361]? = some (Cond.code (jYT.getD 184 objectInit) (jBytesT.getD 184 .empty) (jMaxT.getD 184 0) (jRetT.getD 184 none)) := rfl
theorem jmk185 : jMOk 185 1369 81 1367 1368 = true := by decide +kernel
set_option maxRecDepth 100000 in
theorem jcd185 : lw_tbl[1369]? = some (Cond.code (jYT.getD 185 objectInit) (jBytesT.getD 185 .empty) (jMaxT.getD 185 0) (jRetT.getD 185 none)) := rfl
theorem jmk186 : jMOk 186 1373 81 1371 1372 = true := by decide +kernel
set_option maxRecDepth 100000 in
theorem jcd186 : lw_tbl[1373]? = some (Cond.code (jYT.getD 186 objectInit) (jBytesT.getD 186 .empty) (jMaxT.getD 186 0) (jRetT.getD 186 none)) := rfl
theorem jmk187 : jMOk 187 1381 81 1380 60 = true := by decide +kernel
set_option maxRecDepth 100000 in
theorem jcd187 : lw_tbl[1381]? = some (Cond.code (jYT.getD 187 objectInit) (jBytesT.getD 187 .empty) (jMaxT.getD 187 0) (jRetT.getD 187 none)) := rfl
theorem jmk188 : jMOk 188 1377 81 1375 1376 = true := by decide +kernel
set_option maxRecDepth 100000 in
theorem jcd188 : lw_tbl[1377]? = some (Cond.code (jYT.getD 188 objectInit) (jBytesT.getD 188 .empty) (jMaxT.getD 188 0) (jRetT.getD 188 none)) := rfl
theorem jmk189 : jMOk 189 1385 81 1383 1384 = true := by decide +kernel
set_option maxRecDepth 100000 in
theorem jcd189 : lw_tbl[1385]? = some (Cond.code (jYT.getD 189 objectInit) (jBytesT.getD 189 .empty) (jMaxT.getD 189 0) (jRetT.getD 189 none)) := rfl
theorem jmk190 : jMOk 190 1396 81 1395 61 = true := by decide +kernel
set_option maxRecDepth 100000 in
theorem jcd190 : lw_tbl[1396]? = some (Cond.code (jYT.getD 190 objectInit) (jBytesT.getD 190 .empty) (jMaxT.getD 190 0) (jRetT.getD 190 none)) := rfl
theorem jmk191 : jMOk 191 1389 81 1387 1388 = true := by decide +kernel
set_option maxRecDepth 100000 in
theorem jcd191 : lw_tbl[1389]? = some (Cond.code (jYT.getD 191 objectInit) (jBytesT.getD 191 .empty) (jMaxT.getD 191 0) (jRetT.getD 191 none)) := rfl
theorem jmk192 : jMOk 192 1400 81 1398 1399 = true := by decide +kernel
set_option maxRecDepth 100000 in
theorem jcd192 : lw_tbl[1400]? = some (Cond.code (jYT.getD 192 objectInit) (jBytesT.getD 192 .empty) (jMaxT.getD 192 0) (jRetT.getD 192 none)) := rfl
theorem jmk193 : jMOk 193 1404 81 1402 1403 = true := by decide +kernel
set_option maxRecDepth 100000 in
theorem jcd193 : lw_tbl[1404]? = some (Cond.code (jYT.getD 193 objectInit) (jBytesT.getD 193 .empty) (jMaxT.getD 193 0) (jRetT.getD 193 none)) := rfl
theorem jmk194 : jMOk 194 1408 81 1406 1407 = true := by decide +kernel
set_option maxRecDepth 100000 in
theorem jcd194 : lw_tbl[1408]? = some (Cond.code (jYT.getD 194 objectInit) (jBytesT.getD 194 .empty) (jMaxT.getD 194 0) (jRetT.getD 194 none)) := rfl
theorem jmk195 : jMOk 195 881 82 880 0 = true := by decide +kernel
set_option maxRecDepth 100000 in
theorem jcd195 : lw_tbl[881]? = some (Cond.code (jYT.getD 195 objectInit) (jBytesT.getD 195 .empty) (jMaxT.getD 195 0) (jRetT.getD 195 none)) := rfl
theorem jmk196 : jMOk 196 489 78 488 0 = true := by decide +kernel
set_option maxRecDepth 100000 in
theorem jcd196 : lw_tbl[489]? = some (Cond.code (jYT.getD 196 objectInit) (jBytesT.getD 196 .empty) (jMaxT.getD 196 0) (jRetT.getD 196 none)) := rfl
theorem jMC_ok : ∀ m, m < 197 → ∃ a b c d, jMOk m a b c d = true ∧ lw_tbl[a]? = some (Cond.code (jYT.getD m objectInit) (jBytesT.getD m .empty) (jMaxT.getD m 0) (jRetT.getD m none))
  | 0, _ => ⟨396, 73, 395, 0, jmk0, jcd0⟩
  | 1, _ => ⟨975, 73, 973, 974, jmk1, jcd1⟩
  | 2, _ => ⟨982, 73, 981, 0, jmk2, jcd2⟩
  | 3, _ => ⟨978, 73, 977, 0, jmk3, jcd3⟩
  | 4, _ => ⟨988, 73, 987, 0, jmk4, jcd4⟩
  | 5, _ => ⟨996, 73, 994, 995, jmk5, jcd5⟩
  | 6, _ => ⟨1004, 73, 1003, 24, jmk6, jcd6⟩
  | 7, _ => ⟨112, 66, 111, 0, jmk7, jcd7⟩
  | 8, _ => ⟨482, 66, 480, 481, jmk8, jcd8⟩
  | 9, _ => ⟨571, 66, 569, 570, jmk9, jcd9⟩
  | 10, _ => ⟨524, 66, 522, 523, jmk10, jcd10⟩
  | 11, _ => ⟨533, 66, 531, 532, jmk11, jcd11⟩
  | 12, _ => ⟨541, 66, 539, 540, jmk12, jcd12⟩
  | 13, _ => ⟨651, 66, 649, 650, jmk13, jcd13⟩
  | 14, _ => ⟨643, 66, 641, 642, jmk14, jcd14⟩
  | 15, _ => ⟨655, 66, 653, 654, jmk15, jcd15⟩
  | 16, _ => ⟨546, 66, 544, 545, jmk16, jcd16⟩
  | 17, _ => ⟨555, 66, 553, 554, jmk17, jcd17⟩
  | 18, _ => ⟨729, 66, 727, 728, jmk18, jcd18⟩
  | 19, _ => ⟨778, 66, 776, 777, jmk19, jcd19⟩
  | 20, _ => ⟨791, 66, 789, 790, jmk20, jcd20⟩
  | 21, _ => ⟨795, 66, 793, 794, jmk21, jcd21⟩
  | 22, _ => ⟨746, 66, 744, 745, jmk22, jcd22⟩
  | 23, _ => ⟨931, 66, 929, 930, jmk23, jcd23⟩
  | 24, _ => ⟨760, 66, 758, 759, jmk24, jcd24⟩
  | 25, _ => ⟨742, 66, 740, 741, jmk25, jcd25⟩
  | 26, _ => ⟨751, 66, 749, 750, jmk26, jcd26⟩
  | 27, _ => ⟨770, 66, 768, 769, jmk27, jcd27⟩
  | 28, _ => ⟨756, 66, 754, 755, jmk28, jcd28⟩
  | 29, _ => ⟨765, 66, 764, 13, jmk29, jcd29⟩
  | 30, _ => ⟨229, 67, 228, 0, jmk30, jcd30⟩
  | 31, _ => ⟨718, 67, 716, 717, jmk31, jcd31⟩
  | 32, _ => ⟨803, 67, 801, 802, jmk32, jcd32⟩
  | 33, _ => ⟨341, 71, 340, 0, jmk33, jcd33⟩
  | 34, _ => ⟨851, 71, 849, 850, jmk34, jcd34⟩
  | 35, _ => ⟨855, 71, 854, 18, jmk35, jcd35⟩
  | 36, _ => ⟨863, 71, 862, 19, jmk36, jcd36⟩
  | 37, _ => ⟨868, 71, 867, 20, jmk37, jcd37⟩
  | 38, _ => ⟨268, 69, 267, 0, jmk38, jcd38⟩
  | 39, _ => ⟨667, 69, 665, 666, jmk39, jcd39⟩
  | 40, _ => ⟨830, 69, 828, 829, jmk40, jcd40⟩
  | 41, _ => ⟨663, 69, 661, 662, jmk41, jcd41⟩
  | 42, _ => ⟨672, 69, 670, 671, jmk42, jcd42⟩
  | 43, _ => ⟨705, 69, 703, 704, jmk43, jcd43⟩
  | 44, _ => ⟨676, 69, 675, 8, jmk44, jcd44⟩
  | 45, _ => ⟨685, 69, 684, 9, jmk45, jcd45⟩
  | 46, _ => ⟨689, 69, 688, 10, jmk46, jcd46⟩
  | 47, _ => ⟨697, 69, 696, 11, jmk47, jcd47⟩
  | 48, _ => ⟨371, 72, 370, 0, jmk48, jcd48⟩
  | 49, _ => ⟨878, 72, 876, 877, jmk49, jcd49⟩
  | 50, _ => ⟨902, 72, 900, 901, jmk50, jcd50⟩
  | 51, _ => ⟨912, 72, 910, 911, jmk51, jcd51⟩
  | 52, _ => ⟨921, 72, 919, 920, jmk52, jcd52⟩
  | 53, _ => ⟨925, 72, 924, 22, jmk53, jcd53⟩
  | 54, _ => ⟨953, 72, 951, 952, jmk54, jcd54⟩
  | 55, _ => ⟨967, 72, 965, 966, jmk55, jcd55⟩
  | 56, _ => ⟨957, 72, 956, 23, jmk56, jcd56⟩
  | 57, _ => ⟨891, 72, 890, 21, jmk57, jcd57⟩
  | 58, _ => ⟨101, 65, 100, 0, jmk58, jcd58⟩
  | 59, _ => ⟨506, 65, 504, 505, jmk59, jcd59⟩
  | 60, _ => ⟨474, 65, 472, 473, jmk60, jcd60⟩
  | 61, _ => ⟨550, 65, 548, 549, jmk61, jcd61⟩
  | 62, _ => ⟨783, 65, 781, 782, jmk62, jcd62⟩
  | 63, _ => ⟨559, 65, 557, 558, jmk63, jcd63⟩
  | 64, _ => ⟨734, 65, 732, 733, jmk64, jcd64⟩
  | 65, _ => ⟨486, 65, 484, 485, jmk65, jcd65⟩
  | 66, _ => ⟨493, 65, 491, 492, jmk66, jcd66⟩
  | 67, _ => ⟨575, 65, 573, 574, jmk67, jcd67⟩
  | 68, _ => ⟨303, 70, 302, 0, jmk68, jcd68⟩
  | 69, _ => ⟨811, 70, 809, 810, jmk69, jcd69⟩
  | 70, _ => ⟨815, 70, 814, 0, jmk70, jcd70⟩
  | 71, _ => ⟨821, 70, 820, 14, jmk71, jcd71⟩
  | 72, _ => ⟨825, 70, 824, 15, jmk72, jcd72⟩
  | 73, _ => ⟨837, 70, 836, 16, jmk73, jcd73⟩
  | 74, _ => ⟨842, 70, 841, 17, jmk74, jcd74⟩
  | 75, _ => ⟨249, 68, 248, 0, jmk75, jcd75⟩
  | 76, _ => ⟨940, 68, 938, 939, jmk76, jcd76⟩
  | 77, _ => ⟨962, 68, 960, 961, jmk77, jcd77⟩
  | 78, _ => ⟨95, 64, 94, 0, jmk78, jcd78⟩
  | 79, _ => ⟨470, 64, 468, 469, jmk79, jcd79⟩
  | 80, _ => ⟨478, 64, 476, 477, jmk80, jcd80⟩
  | 81, _ => ⟨498, 64, 497, 0, jmk81, jcd81⟩
  | 82, _ => ⟨510, 64, 509, 2, jmk82, jcd82⟩
  | 83, _ => ⟨529, 64, 528, 4, jmk83, jcd83⟩
  | 84, _ => ⟨537, 64, 536, 5, jmk84, jcd84⟩
  | 85, _ => ⟨563, 64, 562, 6, jmk85, jcd85⟩
  | 86, _ => ⟨514, 64, 513, 3, jmk86, jcd86⟩
  | 87, _ => ⟨502, 64, 501, 1, jmk87, jcd87⟩
  | 88, _ => ⟨517, 64, 516, 0, jmk88, jcd88⟩
  | 89, _ => ⟨87, 63, 86, 0, jmk89, jcd89⟩
  | 90, _ => ⟨620, 63, 618, 619, jmk90, jcd90⟩
  | 91, _ => ⟨625, 63, 623, 624, jmk91, jcd91⟩
  | 92, _ => ⟨629, 63, 627, 628, jmk92, jcd92⟩
  | 93, _ => ⟨633, 63, 631, 632, jmk93, jcd93⟩
  | 94, _ => ⟨637, 63, 635, 636, jmk94, jcd94⟩
  | 95, _ => ⟨647, 63, 645, 646, jmk95, jcd95⟩
  | 96, _ => ⟨659, 63, 657, 658, jmk96, jcd96⟩
  | 97, _ => ⟨701, 63, 699, 700, jmk97, jcd97⟩
  | 98, _ => ⟨709, 63, 707, 708, jmk98, jcd98⟩
  | 99, _ => ⟨725, 63, 723, 724, jmk99, jcd99⟩
  | 100, _ => ⟨738, 63, 736, 737, jmk100, jcd100⟩
  | 101, _ => ⟨774, 63, 772, 773, jmk101, jcd101⟩
  | 102, _ => ⟨787, 63, 785, 786, jmk102, jcd102⟩
  | 103, _ => ⟨799, 63, 797, 798, jmk103, jcd103⟩
  | 104, _ => ⟨807, 63, 805, 806, jmk104, jcd104⟩
  | 105, _ => ⟨847, 63, 845, 846, jmk105, jcd105⟩
  | 106, _ => ⟨874, 63, 872, 873, jmk106, jcd106⟩
  | 107, _ => ⟨898, 63, 896, 897, jmk107, jcd107⟩
  | 108, _ => ⟨908, 63, 906, 907, jmk108, jcd108⟩
  | 109, _ => ⟨917, 63, 915, 916, jmk109, jcd109⟩
  | 110, _ => ⟨936, 63, 934, 935, jmk110, jcd110⟩
  | 111, _ => ⟨945, 63, 943, 944, jmk111, jcd111⟩
  | 112, _ => ⟨949, 63, 947, 948, jmk112, jcd112⟩
  | 113, _ => ⟨971, 63, 969, 970, jmk113, jcd113⟩
  | 114, _ => ⟨992, 63, 990, 991, jmk114, jcd114⟩
  | 115, _ => ⟨1017, 63, 1015, 1016, jmk115, jcd115⟩
  | 116, _ => ⟨1021, 63, 1019, 1020, jmk116, jcd116⟩
  | 117, _ => ⟨1025, 63, 1023, 1024, jmk117, jcd117⟩
  | 118, _ => ⟨567, 63, 566, 7, jmk118, jcd118⟩
  | 119, _ => ⟨714, 63, 713, 12, jmk119, jcd119⟩
  | 120, _ => ⟨520, 63, 519, 0, jmk120, jcd120⟩
  | 121, _ => ⟨681, 63, 680, 0, jmk121, jcd121⟩
  | 122, _ => ⟨1031, 81, 1030, 0, jmk122, jcd122⟩
  | 123, _ => ⟨1151, 81, 1150, 0, jmk123, jcd123⟩
  | 124, _ => ⟨1148, 81, 1146, 1147, jmk124, jcd124⟩
  | 125, _ => ⟨1155, 81, 1153, 1154, jmk125, jcd125⟩
  | 126, _ => ⟨1171, 81, 1170, 32, jmk126, jcd126⟩
  | 127, _ => ⟨1183, 81, 1182, 35, jmk127, jcd127⟩
  | 128, _ => ⟨1187, 81, 1186, 36, jmk128, jcd128⟩
  | 129, _ => ⟨1179, 81, 1178, 34, jmk129, jcd129⟩
  | 130, _ => ⟨1175, 81, 1174, 33, jmk130, jcd130⟩
  | 131, _ => ⟨1191, 81, 1190, 37, jmk131, jcd131⟩
  | 132, _ => ⟨1195, 81, 1194, 38, jmk132, jcd132⟩
  | 133, _ => ⟨1167, 81, 1166, 31, jmk133, jcd133⟩
  | 134, _ => ⟨1163, 81, 1162, 30, jmk134, jcd134⟩
  | 135, _ => ⟨1159, 81, 1157, 1158, jmk135, jcd135⟩
  | 136, _ => ⟨1040, 81, 1039, 26, jmk136, jcd136⟩
  | 137, _ => ⟨1044, 81, 1043, 27, jmk137, jcd137⟩
  | 138, _ => ⟨1048, 81, 1047, 28, jmk138, jcd138⟩
  | 139, _ => ⟨1036, 81, 1035, 25, jmk139, jcd139⟩
  | 140, _ => ⟨1052, 81, 1051, 29, jmk140, jcd140⟩
  | 141, _ => ⟨1199, 81, 1197, 1198, jmk141, jcd141⟩
  | 142, _ => ⟨1322, 81, 1321, 54, jmk142, jcd142⟩
  | 143, _ => ⟨1207, 81, 1206, 39, jmk143, jcd143⟩
  | 144, _ => ⟨1218, 81, 1217, 40, jmk144, jcd144⟩
  | 145, _ => ⟨1210, 81, 1209, 0, jmk145, jcd145⟩
  | 146, _ => ⟨1222, 81, 1221, 41, jmk146, jcd146⟩
  | 147, _ => ⟨1349, 81, 1348, 0, jmk147, jcd147⟩
  | 148, _ => ⟨1284, 81, 1283, 50, jmk148, jcd148⟩
  | 149, _ => ⟨1365, 81, 1364, 59, jmk149, jcd149⟩
  | 150, _ => ⟨1242, 81, 1241, 45, jmk150, jcd150⟩
  | 151, _ => ⟨1234, 81, 1233, 43, jmk151, jcd151⟩
  | 152, _ => ⟨1246, 81, 1245, 46, jmk152, jcd152⟩
  | 153, _ => ⟨1238, 81, 1237, 44, jmk153, jcd153⟩
  | 154, _ => ⟨1230, 81, 1229, 42, jmk154, jcd154⟩
  | 155, _ => ⟨1254, 81, 1253, 47, jmk155, jcd155⟩
  | 156, _ => ⟨1292, 81, 1291, 52, jmk156, jcd156⟩
  | 157, _ => ⟨1280, 81, 1279, 49, jmk157, jcd157⟩
  | 158, _ => ⟨1288, 81, 1287, 51, jmk158, jcd158⟩
  | 159, _ => ⟨1203, 81, 1201, 1202, jmk159, jcd159⟩
  | 160, _ => ⟨1214, 81, 1212, 1213, jmk160, jcd160⟩
  | 161, _ => ⟨1226, 81, 1224, 1225, jmk161, jcd161⟩
  | 162, _ => ⟨1250, 81, 1248, 1249, jmk162, jcd162⟩
  | 163, _ => ⟨1262, 81, 1261, 48, jmk163, jcd163⟩
  | 164, _ => ⟨1265, 81, 1264, 0, jmk164, jcd164⟩
  | 165, _ => ⟨1272, 81, 1271, 0, jmk165, jcd165⟩
  | 166, _ => ⟨1300, 81, 1299, 53, jmk166, jcd166⟩
  | 167, _ => ⟨1307, 81, 1306, 0, jmk167, jcd167⟩
  | 168, _ => ⟨1310, 81, 1309, 0, jmk168, jcd168⟩
  | 169, _ => ⟨1258, 81, 1256, 1257, jmk169, jcd169⟩
  | 170, _ => ⟨1269, 81, 1267, 1268, jmk170, jcd170⟩
  | 171, _ => ⟨1276, 81, 1274, 1275, jmk171, jcd171⟩
  | 172, _ => ⟨1296, 81, 1294, 1295, jmk172, jcd172⟩
  | 173, _ => ⟨1304, 81, 1302, 1303, jmk173, jcd173⟩
  | 174, _ => ⟨1314, 81, 1312, 1313, jmk174, jcd174⟩
  | 175, _ => ⟨1334, 81, 1333, 57, jmk175, jcd175⟩
  | 176, _ => ⟨1330, 81, 1329, 56, jmk176, jcd176⟩
  | 177, _ => ⟨1326, 81, 1325, 55, jmk177, jcd177⟩
  | 178, _ => ⟨1318, 81, 1316, 1317, jmk178, jcd178⟩
  | 179, _ => ⟨1342, 81, 1341, 58, jmk179, jcd179⟩
  | 180, _ => ⟨1338, 81, 1336, 1337, jmk180, jcd180⟩
  | 181, _ => ⟨1346, 81, 1344, 1345, jmk181, jcd181⟩
  | 182, _ => ⟨1353, 81, 1351, 1352, jmk182, jcd182⟩
  | 183, _ => ⟨1357, 81, 1355, 1356, jmk183, jcd183⟩
  | 184, _ => ⟨1361, 81, 1359, 1360, jmk184, jcd184⟩
  | 185, _ => ⟨1369, 81, 1367, 1368, jmk185, jcd185⟩
  | 186, _ => ⟨1373, 81, 1371, 1372, jmk186, jcd186⟩
  | 187, _ => ⟨1381, 81, 1380, 60, jmk187, jcd187⟩
  | 188, _ => ⟨1377, 81, 1375, 1376, jmk188, jcd188⟩
  | 189, _ => ⟨1385, 81, 1383, 1384, jmk189, jcd189⟩
  | 190, _ => ⟨1396, 81, 1395, 61, jmk190, jcd190⟩
  | 191, _ => ⟨1389, 81, 1387, 1388, jmk191, jcd191⟩
  | 192, _ => ⟨1400, 81, 1398, 1399, jmk192, jcd192⟩
  | 193, _ => ⟨1404, 81, 1402, 1403, jmk193, jcd193⟩
  | 194, _ => ⟨1408, 81, 1406, 1407, jmk194, jcd194⟩
  | 195, _ => ⟨881, 82, 880, 0, jmk195, jcd195⟩
  | 196, _ => ⟨489, 78, 488, 0, jmk196, jcd196⟩
  | n + 197, h => absurd h (by omega)
def jLnkOk (own i m p : Nat) (nest : Bool) : Bool := (if Nat.ble 900 m then (if m == 900 then jAt p (.methodLink (jC own) i arraycopyName) else if m == 903 then jAt p (.methodLink (jC own) i Lib.Math.max.name) else if m == 904 then jAt p (.methodLink (jC own) i Lib.Math.min.name) else true) else (Nat.blt m 197 || m == 198) && (if nest then jAtN p (.methodLinkNest (jC own) i (jYT.getD m objectInit) "PlayedLaws") else jAt p (.methodLink (jC own) i (jYT.getD m objectInit))))
def jLnkC : List ((Nat × (Nat × Nat)) × (Nat × Bool)) := [((0, (3, 198)), (397, false)), ((0, (11, 7)), (337, true)), ((0, (20, 38)), (339, true)), ((0, (35, 3)), (976, false)), ((0, (39, 2)), (980, false)), ((0, (43, 41)), (984, false)), ((0, (47, 43)), (985, false)), ((0, (51, 4)), (986, false)), ((0, (55, 121)), (921, true)), ((0, (63, 59)), (979, false)), ((0, (69, 9)), (997, false)), ((0, (79, 6)), (1001, false)), ((0, (86, 16)), (1005, false)), ((0, (93, 17)), (1006, false)), ((0, (97, 18)), (1007, false)), ((0, (100, 19)), (1008, false)), ((0, (103, 20)), (1009, false)), ((0, (106, 21)), (1010, false)), ((0, (109, 25)), (1011, false)), ((0, (113, 26)), (1012, false)), ((1, (3, 198)), (113, false)), ((1, (11, 58)), (115, false)), ((1, (47, 65)), (483, false)), ((1, (50, 66)), (490, false)), ((1, (72, 67)), (572, false)), ((1, (76, 60)), (525, false)), ((1, (80, 120)), (480, true)), ((1, (84, 61)), (547, false)), ((1, (88, 63)), (556, false)), ((1, (92, 14)), (730, false)), ((1, (96, 64)), (731, false)), ((1, (99, 15)), (779, false)), ((1, (102, 62)), (780, false)), ((1, (105, 59)), (747, false)), ((1, (108, 195)), (932, false)), ((1, (113, 22)), (743, false)), ((1, (117, 43)), (752, false)), ((1, (123, 28)), (753, false)), ((1, (130, 904)), (766, false)), ((1, (135, 27)), (767, false)), ((1, (138, 24)), (757, false)), ((1, (144, 121)), (699, true)), ((1, (148, 29)), (762, false)), ((2, (1, 198)), (230, false)), ((2, (15, 7)), (171, true)), ((2, (20, 9)), (719, false)), ((2, (27, 904)), (720, false)), ((3, (3, 198)), (342, false)), ((3, (11, 7)), (282, true)), ((3, (20, 38)), (284, true)), ((3, (27, 58)), (348, false)), ((3, (38, 35)), (852, false)), ((3, (42, 9)), (856, false)), ((3, (49, 66)), (859, false)), ((3, (55, 36)), (860, false)), ((3, (58, 37)), (865, false)), ((3, (65, 60)), (857, false)), ((3, (69, 41)), (858, false)), ((3, (76, 67)), (864, false)), ((3, (79, 59)), (869, false)), ((3, (83, 62)), (870, false)), ((4, (3, 198)), (269, false)), ((4, (11, 58)), (271, false)), ((4, (32, 65)), (668, false)), ((4, (39, 67)), (831, false)), ((4, (43, 39)), (664, false)), ((4, (51, 42)), (669, false)), ((4, (55, 44)), (673, false)), ((4, (65, 59)), (677, false)), ((4, (69, 121)), (617, true)), ((4, (73, 45)), (682, false)), ((4, (79, 46)), (686, false)), ((4, (82, 47)), (694, false)), ((4, (86, 60)), (678, false)), ((4, (102, 903)), (690, false)), ((4, (111, 904)), (693, false)), ((5, (3, 198)), (372, false)), ((5, (11, 7)), (312, true)), ((5, (20, 38)), (314, true)), ((5, (29, 195)), (879, false)), ((5, (35, 9)), (885, false)), ((5, (39, 121)), (824, true)), ((5, (47, 60)), (887, false)), ((5, (53, 57)), (888, false)), ((5, (60, 16)), (903, false)), ((5, (64, 18)), (904, false)), ((5, (68, 27)), (913, false)), ((5, (80, 53)), (922, false)), ((5, (84, 17)), (926, false)), ((5, (87, 41)), (892, false)), ((5, (91, 43)), (893, false)), ((5, (95, 28)), (927, false)), ((5, (99, 23)), (928, false)), ((5, (106, 56)), (954, false)), ((5, (116, 59)), (958, false)), ((5, (119, 77)), (959, false)), ((6, (3, 198)), (102, false)), ((6, (15, 59)), (551, false)), ((6, (19, 60)), (494, false)), ((6, (23, 196)), (487, false)), ((6, (29, 904)), (576, false)), ((6, (35, 900)), (579, false)), ((7, (3, 198)), (304, false)), ((7, (11, 7)), (244, true)), ((7, (26, 58)), (310, false)), ((7, (37, 38)), (249, true)), ((7, (41, 9)), (812, false)), ((7, (51, 70)), (813, false)), ((7, (60, 59)), (816, false)), ((7, (64, 121)), (755, true)), ((7, (68, 71)), (818, false)), ((7, (71, 73)), (834, false)), ((7, (74, 74)), (839, false)), ((7, (78, 72)), (822, false)), ((7, (85, 60)), (826, false)), ((7, (91, 40)), (827, false)), ((7, (94, 42)), (832, false)), ((7, (98, 43)), (833, false)), ((7, (105, 24)), (838, false)), ((7, (108, 67)), (843, false)), ((8, (3, 198)), (250, false)), ((8, (11, 58)), (252, false)), ((8, (27, 60)), (941, false)), ((8, (31, 59)), (963, false)), ((9, (3, 198)), (96, false)), ((9, (11, 58)), (99, false)), ((9, (22, 7)), (48, true)), ((9, (31, 60)), (471, false)), ((9, (35, 8)), (479, false)), ((9, (41, 81)), (495, false)), ((9, (45, 87)), (499, false)), ((9, (49, 82)), (507, false)), ((9, (52, 83)), (526, false)), ((9, (55, 84)), (534, false)), ((9, (58, 85)), (560, false)), ((9, (61, 86)), (511, false)), ((9, (65, 10)), (521, false)), ((9, (69, 11)), (530, false)), ((9, (75, 88)), (515, false)), ((9, (79, 12)), (538, false)), ((9, (83, 16)), (543, false)), ((9, (86, 17)), (552, false)), ((9, (92, 120)), (456, true)), ((9, (95, 59)), (503, false)), ((10, (3, 198)), (88, false)), ((10, (11, 78)), (31, true)), ((10, (18, 7)), (162, true)), ((10, (25, 30)), (227, false)), ((10, (37, 75)), (185, true)), ((10, (44, 38)), (204, true)), ((10, (51, 68)), (301, false)), ((10, (58, 33)), (277, true)), ((10, (65, 48)), (307, true)), ((10, (72, 0)), (332, true)), ((10, (79, 901)), (419, false)), ((10, (85, 902)), (429, false)), ((10, (89, 79)), (467, false)), ((10, (93, 80)), (475, false)), ((10, (99, 118)), (564, false)), ((10, (106, 120)), (621, false)), ((10, (116, 12)), (638, false)), ((10, (123, 59)), (639, false)), ((10, (135, 14)), (640, false)), ((10, (141, 13)), (648, false)), ((10, (153, 15)), (652, false)), ((10, (159, 41)), (660, false)), ((10, (175, 43)), (702, false)), ((10, (179, 16)), (710, false)), ((10, (182, 119)), (711, false)), ((10, (188, 17)), (721, false)), ((10, (192, 18)), (726, false)), ((10, (195, 25)), (739, false)), ((10, (199, 26)), (748, false)), ((10, (203, 19)), (775, false)), ((10, (206, 20)), (788, false)), ((10, (209, 21)), (792, false)), ((10, (218, 32)), (800, false)), ((10, (224, 69)), (808, false)), ((10, (234, 34)), (848, false)), ((10, (240, 49)), (875, false)), ((10, (244, 195)), (894, false)), ((10, (249, 50)), (899, false)), ((10, (252, 51)), (909, false)), ((10, (255, 52)), (918, false)), ((10, (264, 76)), (937, false)), ((10, (271, 54)), (950, false)), ((10, (275, 55)), (964, false)), ((10, (278, 1)), (972, false)), ((10, (287, 5)), (993, false)), ((10, (296, 23)), (1013, false)), ((10, (299, 31)), (715, false)), ((10, (305, 22)), (1026, false)), ((10, (308, 9)), (568, false)), ((11, (1, 198)), (1032, false)), ((11, (75, 139)), (1033, false)), ((11, (78, 140)), (1049, false)), ((11, (81, 123)), (1149, false)), ((11, (92, 126)), (1168, false)), ((11, (100, 127)), (1180, false)), ((11, (104, 129)), (1176, false)), ((11, (108, 128)), (1184, false)), ((11, (115, 130)), (1172, false)), ((11, (118, 131)), (1188, false)), ((11, (121, 132)), (1192, false)), ((11, (127, 133)), (1164, false)), ((11, (130, 134)), (1160, false)), ((11, (133, 136)), (1037, false)), ((11, (137, 137)), (1041, false)), ((11, (140, 138)), (1045, false)), ((11, (152, 147)), (1347, false)), ((11, (156, 150)), (1239, false)), ((11, (160, 152)), (1243, false)), ((11, (166, 151)), (1231, false)), ((11, (170, 153)), (1235, false)), ((11, (173, 154)), (1227, false)), ((11, (177, 148)), (1281, false)), ((11, (180, 155)), (1251, false)), ((11, (184, 156)), (1289, false)), ((11, (188, 143)), (1204, false)), ((11, (192, 145)), (1208, false)), ((11, (196, 144)), (1215, false)), ((11, (199, 146)), (1219, false)), ((11, (202, 163)), (1259, false)), ((11, (205, 164)), (1263, false)), ((11, (208, 165)), (1270, false)), ((11, (212, 157)), (1277, false)), ((11, (215, 158)), (1285, false)), ((11, (218, 166)), (1297, false)), ((11, (221, 167)), (1305, false)), ((11, (224, 168)), (1308, false)), ((11, (227, 142)), (1319, false)), ((11, (230, 177)), (1323, false)), ((11, (233, 176)), (1327, false)), ((11, (236, 175)), (1331, false)), ((11, (239, 179)), (1339, false)), ((11, (242, 149)), (1362, false)), ((11, (245, 187)), (1378, false)), ((11, (254, 190)), (1393, false)), ((12, (9, 89)), (85, false)), ((12, (12, 122)), (1029, false)), ((12, (13, 90)), (617, false)), ((12, (17, 124)), (1145, false)), ((12, (18, 91)), (622, false)), ((12, (22, 125)), (1152, false)), ((12, (23, 92)), (626, false)), ((12, (26, 135)), (1156, false)), ((12, (27, 93)), (630, false)), ((12, (30, 141)), (1196, false)), ((12, (31, 94)), (634, false)), ((12, (35, 159)), (1200, false)), ((12, (36, 95)), (644, false)), ((12, (39, 160)), (1211, false)), ((12, (40, 96)), (656, false)), ((12, (43, 161)), (1223, false)), ((12, (44, 97)), (698, false)), ((12, (47, 162)), (1247, false)), ((12, (48, 98)), (706, false)), ((12, (51, 169)), (1255, false)), ((12, (52, 99)), (722, false)), ((12, (55, 170)), (1266, false)), ((12, (56, 100)), (735, false)), ((12, (59, 171)), (1273, false)), ((12, (60, 101)), (771, false)), ((12, (63, 172)), (1293, false)), ((12, (64, 102)), (784, false)), ((12, (67, 173)), (1301, false)), ((12, (68, 103)), (796, false)), ((12, (71, 174)), (1311, false)), ((12, (72, 104)), (804, false)), ((12, (75, 178)), (1315, false)), ((12, (76, 105)), (844, false)), ((12, (79, 180)), (1335, false)), ((12, (80, 106)), (871, false)), ((12, (83, 181)), (1343, false)), ((12, (84, 107)), (895, false)), ((12, (87, 182)), (1350, false)), ((12, (88, 108)), (905, false)), ((12, (91, 183)), (1354, false)), ((12, (92, 109)), (914, false)), ((12, (95, 184)), (1358, false)), ((12, (96, 110)), (933, false)), ((12, (99, 185)), (1366, false)), ((12, (100, 111)), (942, false)), ((12, (103, 186)), (1370, false)), ((12, (104, 112)), (946, false)), ((12, (107, 188)), (1374, false)), ((12, (108, 113)), (968, false)), ((12, (111, 189)), (1382, false)), ((12, (112, 114)), (989, false)), ((12, (116, 191)), (1386, false)), ((12, (117, 115)), (1014, false)), ((12, (120, 192)), (1397, false)), ((12, (121, 116)), (1018, false)), ((12, (124, 193)), (1401, false)), ((12, (125, 117)), (1022, false)), ((12, (128, 194)), (1405, false))]
theorem jLnkC_ok : (jLnkC.all fun e => jLnkOk e.1.1 e.1.2.1 e.1.2.2 e.2.1 e.2.2) = true := by decide +kernel
theorem jMthT_ok : (jMthT.zipIdx.all fun q => q.1.all fun x => jLnkC.any fun e => decide (e.1 = (q.2, (x.1, x.2)))) = true := by decide +kernel
theorem jlnk0 {own i m : Nat} (h : (jMthT.getD own []).lookup i = some m) : ∃ p nest, jLnkOk own i m p nest = true := by
  have h1 := jlookup_mem _ _ _ h
  have h2 := List.all_eq_true.mp jMthT_ok _ (jmem_getD h1)
  have h3 := List.all_eq_true.mp h2 _ h1
  obtain ⟨e, he, h4⟩ := List.any_eq_true.mp h3
  have h5 := List.all_eq_true.mp jLnkC_ok _ he
  have h6 : e.1 = (own, (i, m)) := of_decide_eq_true h4
  rw [h6] at h5
  exact ⟨_, _, h5⟩
theorem jlnk {own i m : Nat} (hm : m < 197 ∨ m = 198) (h : (jMthT.getD own []).lookup i = some m) : Cond.methodLink (jC own) i (jYT.getD m objectInit) ∈ jTs ∨ Cond.methodLinkNest (jC own) i (jYT.getD m objectInit) "PlayedLaws" ∈ jNest := by
  obtain ⟨p, nest, h5⟩ := jlnk0 h
  unfold jLnkOk at h5
  have e1 : Nat.ble 900 m = false := by
    rw [← Bool.not_eq_true, Nat.ble_eq]
    omega
  rw [if_neg (by rw [e1]; decide)] at h5
  rw [Bool.and_eq_true] at h5
  have h7 := h5.2
  cases nest
  · exact Or.inl (jAt_mem h7)
  · exact Or.inr (jAtN_mem h7)
theorem jlnk_copy {own i : Nat} (h : (jMthT.getD own []).lookup i = some 900) : Cond.methodLink (jC own) i arraycopyName ∈ jTs := by
  obtain ⟨p, nest, h5⟩ := jlnk0 h
  exact jAt_mem h5
theorem jlnk_max {own i : Nat} (h : (jMthT.getD own []).lookup i = some 903) : Cond.methodLink (jC own) i Lib.Math.max.name ∈ jTs := by
  obtain ⟨p, nest, h5⟩ := jlnk0 h
  exact jAt_mem h5
theorem jlnk_min {own i : Nat} (h : (jMthT.getD own []).lookup i = some 904) : Cond.methodLink (jC own) i Lib.Math.min.name ∈ jTs := by
  obtain ⟨p, nest, h5⟩ := jlnk0 h
  exact jAt_mem h5
theorem jmeth {m : Nat} (hm : m < 197) : Cond.code (jYT.getD m objectInit) (jBytesT.getD m .empty) (jMaxT.getD m 0) (jRetT.getD m none) ∈ jTs ∧ Cond.initialized (jYT.getD m objectInit).cls ∈ jTs ∧ (if jStatT.getD m false = true then Cond.static (jYT.getD m objectInit) ∈ jTs else Cond.instanceMethod (jYT.getD m objectInit) ∈ jTs) ∧ (jStatT.getD m false = false → jInitT.getD m false = false → Cond.selects (jC (jOwn m)) (jYT.getD m objectInit) (jYT.getD m objectInit) ∈ jTs) ∧ (parseMethodDescriptor (jYT.getD m objectInit).desc).map (fun x => x.parameters.length) = some (jParT.getD m 0) ∧ (jInitT.getD m false = true → (jYT.getD m objectInit).name = "<init>") ∧ (jYT.getD m objectInit).cls = jC (jOwn m) ∧ ((jYT.getD m objectInit).cls ≠ "java/lang/invoke/MethodHandle" ∧ (jYT.getD m objectInit).cls ≠ "java/lang/invoke/VarHandle") ∧ plainName (jYT.getD m objectInit).cls = true := by
  obtain ⟨a, b, c, d, h1, hc⟩ := jMC_ok m hm
  simp only [jMOk, Bool.and_eq_true] at h1
  obtain ⟨⟨c2, c3⟩, c4, ⟨⟨⟨c5, c6⟩, c7⟩, c8⟩, c9⟩ := h1
  refine ⟨List.mem_filter.mpr ⟨List.mem_of_getElem? hc, rfl⟩, jAt_mem c2, ?_, fun h3 h4 => ?_, of_decide_eq_true c5, fun h3 => ?_, eq_of_beq c7, of_decide_eq_true c8, c9⟩
  · split at c3
    · rename_i z; rw [if_pos z]; exact jAt_mem c3
    · rename_i z; rw [if_neg z]; exact jAt_mem c3
  · rw [h3, h4] at c4
    exact jAt_mem c4
  · rw [h3] at c6
    exact of_decide_eq_true (by simpa using c6)
def jClOk (k p q : Nat) : Bool := (List.range (jN k)).all (fun s => decide (parseFieldDescriptor (jT k s).2.2.1 = some (jTy k s)))
def jNewOk (own i k p a b : Nat) : Bool := Nat.blt k 12 && (jAt p (.classLink (jC own) i (jC k)) && (jAt a (.initialized (jC k)) && jAt b (.instantiable (jC k) (jN k))))
def jNewC : List ((Nat × (Nat × Nat)) × (Nat × (Nat × Nat))) := [((0, (9, 1)), (398, (66, 109))), ((0, (18, 4)), (400, (69, 265))), ((1, (9, 6)), (114, (65, 98))), ((2, (7, 1)), (231, (66, 109))), ((3, (9, 1)), (343, (66, 109))), ((3, (18, 4)), (345, (69, 265))), ((3, (25, 6)), (347, (65, 98))), ((4, (9, 6)), (270, (65, 98))), ((5, (9, 1)), (373, (66, 109))), ((5, (18, 4)), (375, (69, 265))), ((7, (9, 1)), (305, (66, 109))), ((7, (18, 4)), (307, (69, 265))), ((7, (24, 6)), (309, (65, 98))), ((8, (9, 6)), (251, (65, 98))), ((9, (9, 6)), (97, (65, 98))), ((9, (20, 1)), (108, (66, 109))), ((10, (9, 9)), (91, (64, 92))), ((10, (16, 1)), (223, (66, 109))), ((10, (23, 2)), (225, (67, 226))), ((10, (35, 8)), (245, (68, 246))), ((10, (42, 4)), (264, (69, 265))), ((10, (49, 7)), (299, (70, 300))), ((10, (56, 3)), (337, (71, 338))), ((10, (63, 5)), (367, (72, 368))), ((10, (70, 0)), (392, (73, 393))), ((12, (7, 10)), (83, (63, 84))), ((12, (10, 11)), (1027, (81, 1028)))]
theorem jNewC_ok : (jNewC.all fun e => jNewOk e.1.1 e.1.2.1 e.1.2.2 e.2.1 e.2.2.1 e.2.2.2) = true := by decide +kernel
theorem jClsT_ok : (jClsT.zipIdx.all fun q => q.1.all fun x => jNewC.any fun e => decide (e.1 = (q.2, (x.1, x.2)))) = true := by decide +kernel
theorem jcls {own i k : Nat} (h : (jClsT.getD own []).lookup i = some k) : k < 12 ∧ Cond.classLink (jC own) i (jC k) ∈ jTs ∧ Cond.initialized (jC k) ∈ jTs ∧ Cond.instantiable (jC k) (jN k) ∈ jTs := by
  have h1 := jlookup_mem _ _ _ h
  have h2 := List.all_eq_true.mp jClsT_ok _ (jmem_getD h1)
  have h3 := List.all_eq_true.mp h2 _ h1
  obtain ⟨e, he, h4⟩ := List.any_eq_true.mp h3
  have h5 := List.all_eq_true.mp jNewC_ok _ he
  have h6 : e.1 = (own, (i, k)) := of_decide_eq_true h4
  rw [h6] at h5
  simp only [jNewOk, Bool.and_eq_true, Nat.blt_eq] at h5
  exact ⟨h5.1, jAt_mem h5.2.1, jAt_mem h5.2.2.1, jAt_mem h5.2.2.2⟩
def jCstC : List ((Nat × (Nat × Int32)) × Nat) := [((13, (265, 1431655765)), 882), ((13, (266, 858993459)), 883), ((13, (267, 252645135)), 884)]
theorem jCstC_ok : (jCstC.all fun e => jAt e.2 (.constant (jC e.1.1) e.1.2.1 e.1.2.2)) = true := by decide +kernel
theorem jCstT_ok : (jCstT.zipIdx.all fun q => q.1.all fun x => jCstC.any fun e => decide (e.1 = (q.2, (x.1, x.2)))) = true := by decide +kernel
def jLngC : List ((Nat × (Nat × Int64)) × Nat) := [((0, (73, 7919)), 998), ((0, (75, 6151)), 999), ((0, (77, 65521)), 1000), ((11, (248, 7919)), 1390), ((11, (250, 6151)), 1391), ((11, (252, 65521)), 1392)]
theorem jLngC_ok : (jLngC.all fun e => jAt e.2 (.constantLong (jC e.1.1) e.1.2.1 e.1.2.2)) = true := by decide +kernel
theorem jLngT_ok : (jLngT.zipIdx.all fun q => q.1.all fun x => jLngC.any fun e => decide (e.1 = (q.2, (x.1, x.2)))) = true := by decide +kernel
theorem jcst {own i : Nat} {x : Int32} (h : (jCstT.getD own []).lookup i = some x) : Cond.constant (jC own) i x ∈ jTs := by
  have h1 := jlookup_mem _ _ _ h
  have h2 := List.all_eq_true.mp jCstT_ok _ (jmem_getD h1)
  have h3 := List.all_eq_true.mp h2 _ h1
  obtain ⟨e, he, h4⟩ := List.any_eq_true.mp h3
  have h5 := List.all_eq_true.mp jCstC_ok _ he
  have h6 : e.1 = (own, (i, x)) := of_decide_eq_true h4
  rw [h6] at h5
  exact jAt_mem h5
theorem jlng {own i : Nat} {x : Int64} (h : (jLngT.getD own []).lookup i = some x) : Cond.constantLong (jC own) i x ∈ jTs := by
  have h1 := jlookup_mem _ _ _ h
  have h2 := List.all_eq_true.mp jLngT_ok _ (jmem_getD h1)
  have h3 := List.all_eq_true.mp h2 _ h1
  obtain ⟨e, he, h4⟩ := List.any_eq_true.mp h3
  have h5 := List.all_eq_true.mp jLngC_ok _ he
  have h6 : e.1 = (own, (i, x)) := of_decide_eq_true h4
  rw [h6] at h5
  exact jAt_mem h5
def jUwC : List (List Nat) := [[409, 411, 413, 415], [175, 177, 179, 181, 183, 185, 187, 189, 191, 193, 195, 197, 199, 201, 203, 205], [238, 240, 242], [356, 358, 360, 362, 364], [286, 288, 290, 292, 294, 296], [383, 385, 387, 389], [104], [322, 324, 326, 328, 330, 332, 334], [257, 259, 261], [214, 216, 218, 220], [593, 595, 597, 599, 601, 603, 605, 607, 609, 611, 613], [1083, 1085, 1087, 1089, 1091, 1093, 1095, 1097, 1099, 1101, 1103, 1105, 1107, 1109, 1111, 1113, 1115, 1117, 1119, 1121, 1123, 1125, 1127, 1129, 1131, 1133, 1135, 1137, 1139, 1141]]
theorem jUwC_ok : (jUwC.zipIdx.all fun q => Nat.ble (jN q.2) q.1.length && (q.1.zipIdx.all fun x => jAt x.1 (u_lay (jC q.2) (jT q.2) x.2))) = true := by decide +kernel
theorem juws {k : Nat} (hk : k < 12) : ∀ w ∈ u_ws (jC k) (jT k) (jN k), w ∈ jTs := by
  intro w hw
  obtain ⟨s, hs, rfl⟩ := List.mem_map.mp hw
  have h0 : k < jUwC.length := by rw [show jUwC.length = 12 by decide +kernel]; exact hk
  have h1 := List.all_eq_true.mp jUwC_ok (jUwC[k], k) (List.mem_zipIdx_iff_getElem?.mpr (List.getElem?_eq_getElem h0))
  simp only [Bool.and_eq_true, Nat.ble_eq] at h1
  have h2 : s < jUwC[k].length := by have := List.mem_range.mp hs; omega
  exact jAt_mem (List.all_eq_true.mp h1.2 (jUwC[k][s], s) (List.mem_zipIdx_iff_getElem?.mpr (List.getElem?_eq_getElem h2)))
theorem jcl_at : ∀ k, k < 12 → jCl[k]? = some (jC k, jT k, jN k)
  | 0, _ => rfl
  | 1, _ => rfl
  | 2, _ => rfl
  | 3, _ => rfl
  | 4, _ => rfl
  | 5, _ => rfl
  | 6, _ => rfl
  | 7, _ => rfl
  | 8, _ => rfl
  | 9, _ => rfl
  | 10, _ => rfl
  | 11, _ => rfl
  | n + 12, h => absurd h (by omega)
theorem jty_ok : ∀ k, k < 12 → ∀ s, s < jN k → parseFieldDescriptor (jT k s).2.2.1 = some (jTy k s)
  | 0, _ => tyX0_ok
  | 1, _ => tyX1_ok
  | 2, _ => tyX2_ok
  | 3, _ => tyX3_ok
  | 4, _ => tyX4_ok
  | 5, _ => tyX5_ok
  | 6, _ => tyX6_ok
  | 7, _ => tyX7_ok
  | 8, _ => tyX8_ok
  | 9, _ => tyX9_ok
  | 10, _ => tyX10_ok
  | 11, _ => tyX11_ok
  | n + 12, h => absurd h (by omega)
theorem jnm_ok : ∀ k, k < 12 → ∀ a, a < jN k → ∀ b, b < jN k → a ≠ b → (jT k a).2.1 ≠ (jT k b).2.1
  | 0, _ => nmX0
  | 1, _ => nmX1
  | 2, _ => nmX2
  | 3, _ => nmX3
  | 4, _ => nmX4
  | 5, _ => nmX5
  | 6, _ => nmX6
  | 7, _ => nmX7
  | 8, _ => nmX8
  | 9, _ => nmX9
  | 10, _ => nmX10
  | 11, _ => nmX11
  | n + 12, h => absurd h (by omega)
end
section
/-! the pure machine: values, memory, one instruction, a run of calls -/
abbrev jV : Type := Int32 ⊕ (Int64 ⊕ Option jR)
abbrev jM : Type := Nat → jA → Nat → Int32
/-- how many objects are made, which places of references aren't laid yet, the numbers -/
abbrev jS : Type := Nat × (List (jR × Nat) × jM)
abbrev jL : Type := List (Option jV)
abbrev jFr : Type := Nat × (jL × (List jV × jS))
abbrev jO : Type := jFr ⊕ ((Nat × (List jV × List jV)) ⊕ Option jV)
abbrev jI (x : Int32) : jV := .inl x
abbrev jJ (x : Int64) : jV := .inr (.inl x)
abbrev jRf (r : jR) : jV := .inr (.inr (some r))
abbrev jNl : jV := .inr (.inr none)
def jF (m pc : Nat) : Option (Instr × Nat) := ((jCodeT.getD m []).getD (pc / 16) []).lookup pc
def jLong (m : Nat) : List Nat := jLongT.getD m []
def jUp (M : jM) (k : Nat) (a : jA) (i : Nat) (x : Int32) : jM := fun k' a' i' => if k' = k ∧ a' = a ∧ i' = i then x else M k' a' i'
def jCp (M : jM) (a b : jA) (s d n : Nat) : jM := fun k c j => if k = 12 ∧ c = b then va_cpy (M 12 a) (M 12 b) s d n j else M k c j
/-- the script: its length -/
abbrev jSL (M : jM) : Int32 := M 17 (0, 1) 0
/-- the places of references of an object of a class -/
def jSlots (k : Nat) (a : jA) : List (jR × Nat) := ((List.range (jNT.getD k 0)).filter (fun s => (jIsRefT.getD k []).getD s false)).map (fun s => ((k, a), s))
def jPd (P : List (jR × Nat)) (r : jR) (s : Nat) : Bool := match P with
  | [] => false
  | _ => P.contains (r, s)
abbrev jnx (pc : Nat) (al : jL) (st : List jV) (σ : jS) : Option jO := some (.inl (pc, (al, (st, σ))))
/-- a store into a local: no first half of a long stands there or ahead of it -/
def jst (m : Nat) (al : jL) (i : Nat) (v : jV) : Option jL :=
  if (Nat.ble al.length i || (jLong m).contains i) || (Nat.ble 1 i && (jLong m).contains (i - 1)) then none else some (al.set i (some v))
def jsw (pc : Nat) (x : Int32) (lo : Int) (dflt : Int) : List Int → Nat
  | [] => ((pc : Int) + dflt).toNat
  | o :: os => if x.toInt = lo then ((pc : Int) + o).toNat else jsw pc x (lo + 1) dflt os
def jlk (pc : Nat) (x : Int32) (dflt : Int) : List (Int × Int) → Nat
  | [] => ((pc : Int) + dflt).toNat
  | q :: qs => if x.toInt = q.1 then ((pc : Int) + q.2).toNat else jlk pc x dflt qs
abbrev jTg (pc : Nat) (off : Int) : Nat := ((pc : Int) + off).toNat
def jbr (pc n : Nat) (al : jL) (st : List jV) (σ : jS) (off : Int) (q : Prop) [Decidable q] : Option jO :=
  if 0 ≤ (pc : Int) + off ∧ n = 3 then jnx (if q then jTg pc off else pc + 3) al st σ else none
def jpop (m' : Nat) (st : List jV) : Option (List jV × List jV) :=
  if (jParT.getD m' 0) ≤ st.length then
    if jStatT.getD m' false then some ((st.take (jParT.getD m' 0)).reverse, st.drop (jParT.getD m' 0))
    else match st.drop (jParT.getD m' 0) with
      | .inr (.inr (some r)) :: rest => if r.1 = jOwn m' then some (.inr (.inr (some r)) :: (st.take (jParT.getD m' 0)).reverse, rest) else none
      | _ => none
  else none
def jsm : jV → Bool
  | .inr (.inl _) => false
  | _ => true
/-- how an instruction calls: the callee's kind of call is the instruction's -/
def jkind (I : Instr) (m' : Nat) : Bool := match I with
  | .invokestatic _ => jStatT.getD m' false
  | .invokespecial _ => !(jStatT.getD m' false) && jInitT.getD m' false
  | .invokevirtual _ => !(jStatT.getD m' false) && !(jInitT.getD m' false)
  | _ => false
def jinv (m idx n : Nat) (st : List jV) (I : Instr) : Option jO :=
  match (jMthT.getD (jOwn m) []).lookup idx with
  | some m' => match jpop m' st with
    | some (as, rest) => if (rest.length ≤ 4 ∧ n = 3 ∧ m' < 197) ∧ as.length ≤ jMaxT.getD m' 0 ∧ as.all jsm = true ∧ jkind I m' = true then some (.inr (.inl (m', (as, rest)))) else none
    | none => none
  | none => none
def jent (m : Nat) (as : List jV) : jL := as.map some ++ List.replicate (jMaxT.getD m 0 - as.length) none
def jnar (r : Option FieldType) (v : jV) : Bool := match r, v with
  | some .int, .inl _ => true
  | some .boolean, .inl x => x = 0 ∨ x = 1
  | some (.object _), .inr (.inr _) => true
  | _, _ => false
def jstr : List Int32 := (("s0,8,0;s2,6,1;s1,4,8;s3,12,2;s0,10,3;h0,2,9;h1,0,6;h0,1,14;h2,3,20;h0,0,5;h0,2,11;b01423;g25;").toList.map fun c => Int32.ofNat c.toNat)
def jzero (M : jM) (k : Nat) (a : jA) (n : Nat) : Bool := (List.range n).all fun j => M k a j == 0
def jexe (m pc n : Nat) (al : jL) (st : List jV) (σ : jS) (I : Instr) : Option jO := match I with
  | .iconst i => jnx (pc + n) al (jI (Int32.ofInt i) :: st) σ
  | .bipush i => if -128 ≤ i ∧ i < 128 then jnx (pc + n) al (jI (Int32.ofInt i) :: st) σ else none
  | .sipush i => if -32768 ≤ i ∧ i < 32768 then jnx (pc + n) al (jI (Int32.ofInt i) :: st) σ else none
  | .lconst i => jnx (pc + n) al (jJ (Int64.ofNat (i : Nat)) :: st) σ
  | .aconst_null => jnx (pc + n) al (jNl :: st) σ
  | .ldc i => match (jCstT.getD (jOwn m) []).lookup i with
    | some x => jnx (pc + n) al (jI x :: st) σ
    | none => match (jStrT.getD (jOwn m) []).lookup i with
      | some _ => jnx (pc + n) al (jRf (18, (0, 0)) :: st) σ
      | none => none
  | .ldc_w i => match (jCstT.getD (jOwn m) []).lookup i with
    | some x => jnx (pc + n) al (jI x :: st) σ
    | none => none
  | .ldc2_w i => match (jLngT.getD (jOwn m) []).lookup i with
    | some x => jnx (pc + n) al (jJ x :: st) σ
    | none => none
  | .iload i => match al[i]? with
    | some (some (.inl x)) => jnx (pc + n) al (jI x :: st) σ
    | _ => none
  | .iload_n i => match al[(i : Nat)]? with
    | some (some (.inl x)) => jnx (pc + n) al (jI x :: st) σ
    | _ => none
  | .lload i => match al[i]? with
    | some (some (.inr (.inl x))) => jnx (pc + n) al (jJ x :: st) σ
    | _ => none
  | .lload_n i => match al[(i : Nat)]? with
    | some (some (.inr (.inl x))) => jnx (pc + n) al (jJ x :: st) σ
    | _ => none
  | .aload i => match al[i]? with
    | some (some (.inr (.inr x))) => jnx (pc + n) al (.inr (.inr x) :: st) σ
    | _ => none
  | .aload_n i => match al[(i : Nat)]? with
    | some (some (.inr (.inr x))) => jnx (pc + n) al (.inr (.inr x) :: st) σ
    | _ => none
  | .istore i => match st with
    | .inl x :: st => match jst m al i (jI x) with
      | some al' => jnx (pc + n) al' st σ
      | none => none
    | _ => none
  | .istore_n i => match st with
    | .inl x :: st => match jst m al (i : Nat) (jI x) with
      | some al' => jnx (pc + n) al' st σ
      | none => none
    | _ => none
  | .astore i => match st with
    | .inr (.inr x) :: st => match jst m al i (.inr (.inr x)) with
      | some al' => jnx (pc + n) al' st σ
      | none => none
    | _ => none
  | .astore_n i => match st with
    | .inr (.inr x) :: st => match jst m al (i : Nat) (.inr (.inr x)) with
      | some al' => jnx (pc + n) al' st σ
      | none => none
    | _ => none
  | .lstore i => match st with
    | .inr (.inl x) :: st => if jLong m = [i] ∧ i + 1 < al.length then jnx (pc + n) ((al.set (i + 1) none).set i (some (jJ x))) st σ else none
    | _ => none
  | .iinc i c => match al[i]? with
    | some (some (.inl x)) => match jst m al i (jI (x + Int32.ofInt c)) with
      | some al' => if n = 3 then jnx (pc + 3) al' st σ else none
      | none => none
    | _ => none
  | .pop => match st with
    | .inl _ :: st => jnx (pc + n) al st σ
    | _ => none
  | .dup => match st with
    | .inl x :: st => jnx (pc + n) al (jI x :: jI x :: st) σ
    | .inr (.inr x) :: st => jnx (pc + n) al (.inr (.inr x) :: .inr (.inr x) :: st) σ
    | _ => none
  | .dup2 => match st with
    | .inl x :: .inr (.inr y) :: st => jnx (pc + n) al (jI x :: .inr (.inr y) :: jI x :: .inr (.inr y) :: st) σ
    | _ => none
  | .iadd => match st with
    | .inl y :: .inl x :: st => jnx (pc + n) al (jI (x + y) :: st) σ
    | _ => none
  | .isub => match st with
    | .inl y :: .inl x :: st => jnx (pc + n) al (jI (x - y) :: st) σ
    | _ => none
  | .imul => match st with
    | .inl y :: .inl x :: st => jnx (pc + n) al (jI (x * y) :: st) σ
    | _ => none
  | .idiv => match st with
    | .inl y :: .inl x :: st => if y = 0 then none else jnx (pc + n) al (jI (x / y) :: st) σ
    | _ => none
  | .irem => match st with
    | .inl y :: .inl x :: st => if y = 0 then none else jnx (pc + n) al (jI (x % y) :: st) σ
    | _ => none
  | .iand => match st with
    | .inl y :: .inl x :: st => jnx (pc + n) al (jI (x &&& y) :: st) σ
    | _ => none
  | .ior => match st with
    | .inl y :: .inl x :: st => jnx (pc + n) al (jI (x ||| y) :: st) σ
    | _ => none
  | .ixor => match st with
    | .inl y :: .inl x :: st => jnx (pc + n) al (jI (x ^^^ y) :: st) σ
    | _ => none
  | .ishl => match st with
    | .inl y :: .inl x :: st => jnx (pc + n) al (jI (x <<< (y &&& 31)) :: st) σ
    | _ => none
  | .ishr => match st with
    | .inl y :: .inl x :: st => jnx (pc + n) al (jI (x >>> (y &&& 31)) :: st) σ
    | _ => none
  | .iushr => match st with
    | .inl y :: .inl x :: st => jnx (pc + n) al (jI (x.toUInt32 >>> (y.toUInt32 &&& Int32.toUInt32 31)).toInt32 :: st) σ
    | _ => none
  | .ineg => match st with
    | .inl x :: st => jnx (pc + n) al (jI (-x) :: st) σ
    | _ => none
  | .i2b => match st with
    | .inl x :: st => jnx (pc + n) al (jI x.toInt8.toInt32 :: st) σ
    | _ => none
  | .i2l => match st with
    | .inl x :: st => jnx (pc + n) al (jJ x.toInt64 :: st) σ
    | _ => none
  | .l2i => match st with
    | .inr (.inl x) :: st => jnx (pc + n) al (jI x.toInt32 :: st) σ
    | _ => none
  | .ladd => match st with
    | .inr (.inl y) :: .inr (.inl x) :: st => jnx (pc + n) al (jJ (x + y) :: st) σ
    | _ => none
  | .lmul => match st with
    | .inr (.inl y) :: .inr (.inl x) :: st => jnx (pc + n) al (jJ (x * y) :: st) σ
    | _ => none
  | .lrem => match st with
    | .inr (.inl y) :: .inr (.inl x) :: st => if y = 0 then none else jnx (pc + n) al (jJ (x % y) :: st) σ
    | _ => none
  | .goto off => if 0 ≤ (pc : Int) + off ∧ n = 3 then jnx (jTg pc off) al st σ else none
  | .ifCond c off => match st with
    | .inl x :: st => match c with
      | .eq => jbr pc n al st σ off (x = 0)
      | .ne => jbr pc n al st σ off (¬ x = 0)
      | .lt => jbr pc n al st σ off (x < 0)
      | .ge => jbr pc n al st σ off (0 ≤ x)
      | .gt => jbr pc n al st σ off (0 < x)
      | .le => jbr pc n al st σ off (x ≤ 0)
    | _ => none
  | .if_icmp c off => match st with
    | .inl y :: .inl x :: st => match c with
      | .eq => jbr pc n al st σ off (x = y)
      | .ne => jbr pc n al st σ off (¬ x = y)
      | .lt => jbr pc n al st σ off (x < y)
      | .ge => jbr pc n al st σ off (y ≤ x)
      | .gt => jbr pc n al st σ off (y < x)
      | .le => jbr pc n al st σ off (x ≤ y)
    | _ => none
  | .ifnull off => match st with
    | .inr (.inr none) :: st => jbr pc n al st σ off True
    | .inr (.inr (some _)) :: st => jbr pc n al st σ off False
    | _ => none
  | .ifnonnull off => match st with
    | .inr (.inr none) :: st => jbr pc n al st σ off False
    | .inr (.inr (some _)) :: st => jbr pc n al st σ off True
    | _ => none
  | .tableswitch dflt lo hi offs => match st with
    | .inl x :: st => if (0 ≤ (pc : Int) + dflt ∧ offs.toList.all (fun o => decide (0 ≤ (pc : Int) + o))) ∧ hi + 1 = lo + offs.toList.length then jnx (jsw pc x lo dflt offs.toList) al st σ else none
    | _ => none
  | .lookupswitch dflt ps => match st with
    | .inl x :: st => if (0 ≤ (pc : Int) + dflt ∧ ps.toList.all (fun q => decide (0 ≤ (pc : Int) + q.2))) ∧ (ps.toList.zip (ps.toList.drop 1)).all (fun (a, next) => a.1 < next.1) then jnx (jlk pc x dflt ps.toList) al st σ else none
    | _ => none
  | .getfield i => match (jFldT.getD (jOwn m) []).lookup i with
    | some (k, s) => match st with
      | .inr (.inr (some r)) :: st => if r.1 = k then
          (if (jIsRefT.getD k []).getD s false then (if jPd σ.2.1 (k, r.2) s then none else jnx (pc + n) al (jRf (jrf k r.2 s) :: st) σ)
          else jnx (pc + n) al (jI (σ.2.2 k r.2 s) :: st) σ) else none
      | _ => none
    | none => none
  | .putfield i => match (jFldT.getD (jOwn m) []).lookup i with
    | some (k, s) => match st with
      | .inl x :: .inr (.inr (some r)) :: st => if r.1 = k ∧ (jIsRefT.getD k []).getD s false = false ∧ (k = 11 ∧ s = 14 → x = 0 ∨ x = 1) then jnx (pc + n) al st (σ.1, (σ.2.1, jUp σ.2.2 k r.2 s x)) else none
      | .inr (.inr (some v)) :: .inr (.inr (some r)) :: st => if (r.1 = k ∧ (jIsRefT.getD k []).getD s false = true ∧ jInitT.getD m false = true ∧ jOwn m = k) ∧ v = jrf k r.2 s ∧ σ.2.1.contains ((k, r.2), s) ∧ (σ.2.1.erase ((k, r.2), s)).contains ((k, r.2), s) = false then jnx (pc + n) al st (σ.1, (σ.2.1.erase ((k, r.2), s), σ.2.2)) else none
      | _ => none
    | none => none
  | .iaload => match st with
    | .inl i :: .inr (.inr (some r)) :: st => if r.1 = 12 then (if 0 ≤ i ∧ i.toNatClampNeg < jLen 12 r.2 then jnx (pc + n) al (jI (σ.2.2 12 r.2 i.toNatClampNeg) :: st) σ else none)
        else if r = (17, (0, 0)) then (if 0 ≤ i ∧ i.toNatClampNeg < (jSL σ.2.2).toNatClampNeg then jnx (pc + n) al (jI (σ.2.2 17 (0, 0) i.toNatClampNeg) :: st) σ else none) else none
    | _ => none
  | .baload => match st with
    | .inl i :: .inr (.inr (some r)) :: st => if (r.1 = 13 ∨ r.1 = 14) ∧ 0 ≤ i ∧ i.toNatClampNeg < jLen r.1 r.2 then jnx (pc + n) al (jI (σ.2.2 r.1 r.2 i.toNatClampNeg) :: st) σ else none
    | _ => none
  | .iastore => match st with
    | .inl x :: .inl i :: .inr (.inr (some r)) :: st => if r.1 = 12 ∧ 0 ≤ i ∧ i.toNatClampNeg < jLen 12 r.2 then jnx (pc + n) al st (σ.1, (σ.2.1, jUp σ.2.2 12 r.2 i.toNatClampNeg x)) else none
    | _ => none
  | .bastore => match st with
    | .inl x :: .inl i :: .inr (.inr (some r)) :: st => if ((r.1 = 13 ∧ (x = 0 ∨ x = 1)) ∨ (r.1 = 14 ∧ x.toInt8.toInt32 = x)) ∧ 0 ≤ i ∧ i.toNatClampNeg < jLen r.1 r.2 then jnx (pc + n) al st (σ.1, (σ.2.1, jUp σ.2.2 r.1 r.2 i.toNatClampNeg x)) else none
    | _ => none
  | .aaload => match st with
    | .inl i :: .inr (.inr (some r)) :: st => if (r.1 = 15 ∨ r.1 = 16) ∧ 0 ≤ i ∧ i.toNatClampNeg < jLen r.1 r.2 then (if jPd σ.2.1 r i.toNatClampNeg then none else jnx (pc + n) al (jRf (jrf r.1 r.2 i.toNatClampNeg) :: st) σ) else none
    | _ => none
  | .aastore => match st with
    | .inr (.inr (some v)) :: .inl i :: .inr (.inr (some r)) :: st => if ((r.1 = 15 ∨ r.1 = 16) ∧ 0 ≤ i ∧ i.toNatClampNeg < jLen r.1 r.2) ∧ v = jrf r.1 r.2 i.toNatClampNeg ∧ σ.2.1.contains (r, i.toNatClampNeg) ∧ (σ.2.1.erase (r, i.toNatClampNeg)).contains (r, i.toNatClampNeg) = false then jnx (pc + n) al st (σ.1, (σ.2.1.erase (r, i.toNatClampNeg), σ.2.2)) else none
    | _ => none
  | .arraylength => match st with
    | .inr (.inr (some r)) :: st => if 12 ≤ r.1 ∧ r.1 ≤ 16 then jnx (pc + n) al (jI (Int32.ofNat (jLen r.1 r.2)) :: st) σ else if r = (17, (0, 0)) then jnx (pc + n) al (jI (jSL σ.2.2) :: st) σ else none
    | _ => none
  | .new i => match (jClsT.getD (jOwn m) []).lookup i, jRefs[σ.1]? with
    | some k, some r => if r.1 = k ∧ k < 12 ∧ jzero σ.2.2 k r.2 (jNT.getD k 0) then jnx (pc + n) al (jRf r :: st) (σ.1 + 1, (jSlots k r.2 ++ σ.2.1, σ.2.2)) else none
    | _, _ => none
  | .newarray t => match st, jRefs[σ.1]? with
    | .inl x :: st, some r => if ((t = .int ∧ r.1 = 12) ∨ (t = .boolean ∧ r.1 = 13) ∨ (t = .byte ∧ r.1 = 14)) ∧ 0 ≤ x ∧ x.toNatClampNeg = jLen r.1 r.2 ∧ jzero σ.2.2 r.1 r.2 (jLen r.1 r.2) then jnx (pc + n) al (jRf r :: st) (σ.1 + 1, σ.2) else none
    | _, _ => none
  | .anewarray i => match st, (jClsT.getD (jOwn m) []).lookup i, jRefs[σ.1]? with
    | .inl x :: st, some k, some r => if ((k = 1 ∧ r.1 = 15) ∨ (k = 4 ∧ r.1 = 16)) ∧ 0 ≤ x ∧ x.toNatClampNeg = jLen r.1 r.2 then jnx (pc + n) al (jRf r :: st) (σ.1 + 1, ((List.range (jLen r.1 r.2)).map (fun j => (r, j)) ++ σ.2.1, σ.2.2)) else none
    | _, _, _ => none
  | .invokespecial i => match (jMthT.getD (jOwn m) []).lookup i with
    | some 198 => match st with
      | .inr (.inr (some _)) :: st => if n = 3 ∧ st.length ≤ 4 then jnx (pc + 3) al st σ else none
      | _ => none
    | _ => jinv m i n st I
  | .invokevirtual i => match (jMthT.getD (jOwn m) []).lookup i with
    | some 901 => match st with
      | .inr (.inr (some (18, _))) :: st => if n = 3 ∧ st.length ≤ 4 then jnx (pc + 3) al (jI (Int32.ofNat jstr.length) :: st) σ else none
      | _ => none
    | some 902 => match st with
      | .inl i :: .inr (.inr (some (18, _))) :: st => if (n = 3 ∧ st.length ≤ 4) ∧ 0 ≤ i ∧ i.toNatClampNeg < jstr.length then jnx (pc + 3) al (jI (jstr.getD i.toNatClampNeg 0) :: st) σ else none
      | _ => none
    | _ => jinv m i n st I
  | .invokestatic i => match (jMthT.getD (jOwn m) []).lookup i with
    | some 900 => match st with
      | .inl c :: .inl d :: .inr (.inr (some r)) :: .inl s :: .inr (.inr (some q)) :: st => if (r.1 = 12 ∧ q.1 = 12 ∧ n = 3 ∧ st.length ≤ 4) ∧ 0 ≤ s ∧ 0 ≤ d ∧ 0 ≤ c ∧ s.toNatClampNeg + c.toNatClampNeg ≤ jLen 12 q.2 ∧ d.toNatClampNeg + c.toNatClampNeg ≤ jLen 12 r.2 then jnx (pc + 3) al st (σ.1, (σ.2.1, jCp σ.2.2 q.2 r.2 s.toNatClampNeg d.toNatClampNeg c.toNatClampNeg)) else none
      | _ => none
    | some 903 => match st with
      | .inl y :: .inl x :: st => if n = 3 ∧ st.length ≤ 4 then jnx (pc + 3) al (jI (if x < y then y else x) :: st) σ else none
      | _ => none
    | some 904 => match st with
      | .inl y :: .inl x :: st => if n = 3 ∧ st.length ≤ 4 then jnx (pc + 3) al (jI (if y < x then y else x) :: st) σ else none
      | _ => none
    | _ => jinv m i n st I
  | .ireturn => match st with
    | .inl x :: [] => if jnar (jRetT.getD m none) (jI x) then some (.inr (.inr (some (jI x)))) else none
    | _ => none
  | .areturn => match st with
    | .inr (.inr x) :: [] => if jnar (jRetT.getD m none) (.inr (.inr x)) then some (.inr (.inr (some (.inr (.inr x))))) else none
    | _ => none
  | .return_ => match st with
    | [] => if jRetT.getD m none = none then some (.inr (.inr none)) else none
    | _ => none
  | _ => none
def jstep (m pc : Nat) (al : jL) (st : List jV) (σ : jS) : Option jO := match jF m pc with
  | some (I, n) => jexe m pc n al st σ I
  | none => none
/-- f steps and calls at most, d calls deep at most -/
def jrun : Nat → Nat → Nat → jFr → Option (Option jV × jS)
  | 0, _, _, _ => none
  | f + 1, d, m, (pc, (al, (st, σ))) => match jstep m pc al st σ with
    | none => none
    | some (.inl fr) => jrun f d m fr
    | some (.inr (.inl (m', (as, rest)))) => match d with
      | 0 => none
      | d' + 1 => match jrun f d' m' (0, (jent m' as, ([], σ))) with
        | none => none
        | some (v, σ1) => jrun f (d' + 1) m (pc + 3, (al, (v.toList ++ rest, σ1)))
    | some (.inr (.inr v)) => some (v, σ)
def jE (d m pc : Nat) (al : jL) (st : List jV) (σ : jS) (v : Option jV) (σ' : jS) : Prop := ∃ f, jrun f d m (pc, (al, (st, σ))) = some (v, σ')
end
section
/-! the tables of 03 against the bytecode and the words of the claim -/
theorem jF_lt {m pc : Nat} {q : Instr × Nat} (h : jF m pc = some q) : m < 199 := by
  rcases Nat.lt_or_ge m 199 with z | z
  · exact z
  · have e : jCodeT.getD m [] = [] := by
      rw [List.getD_eq_getElem?_getD, List.getElem?_eq_none (by exact z)]
      rfl
    rw [jF, e] at h
    simp [List.lookup] at h
theorem jF_dec {m pc n : Nat} {I : Instr} (h : jF m pc = some (I, n)) : decode (jBytesT.getD m .empty) pc = .ok (I, n) := by
  have h1 := jdec_all m (jF_lt h)
  have h2 := jlookup_mem _ _ _ h
  unfold jDecOk at h1
  generalize jCodeT.getD m [] = X at h1 h2
  have h3 : X.getD (pc / 16) [] ∈ X ∨ X.getD (pc / 16) [] = [] := by
    rw [List.getD_eq_getElem?_getD]
    cases hq : X[pc / 16]? with
    | none => exact Or.inr rfl
    | some x => exact Or.inl (List.mem_of_getElem? hq)
  rcases h3 with h3 | h3
  · have h4 := List.all_eq_true.mp (List.all_eq_true.mp h1 _ h3) _ h2
    exact of_decide_eq_true h4
  · rw [h3] at h2
    exact absurd h2 List.not_mem_nil
theorem jRefs_nodup : jRefs.Nodup := by decide +kernel
theorem jRefs_len : jRefs.length = 512 := by decide +kernel
end
section
/-! the pure machine's state against the heap, the locals -/
def jcv (g : jR → Nat) : jV → Value
  | .inl x => .int x
  | .inr (.inl x) => .long x
  | .inr (.inr none) => .null
  | .inr (.inr (some r)) => .ref (g r)
def jfs (g : jR → Nat) (σ : jS) (k : Nat) (a : jA) : List Value :=
  (List.range (jNT.getD k 0)).map (fun s => if (jIsRefT.getD k []).getD s false then (if σ.2.1.contains ((k, a), s) then .null else .ref (g (jrf k a s))) else .int (σ.2.2 k a s))
def jEn (g : jR → Nat) (cA : Nat → ClassId) (σ : jS) (r : jR) : va_E :=
  if r.1 < 12 then .inr (r.1, jfs g σ r.1 r.2)
  else if r.1 = 15 ∨ r.1 = 16 then .inl (cA r.1, (jLen r.1 r.2, .inr (.inr (.inr (.inr (fun j => if σ.2.1.contains (r, j) then none else some (g (jrf r.1 r.2 j))))))))
  else .inl (cA r.1, (jLen r.1 r.2, .inl (fun j => σ.2.2 r.1 r.2 j)))
def jWs (g : jR → Nat) (base : Nat) (cA : Nat → ClassId) (σ : jS) : va_W := (List.range σ.1).map (fun j => (base + j, jEn g cA σ (jRefs.getD j (99, (0, 0)))))
theorem jWs_len (g : jR → Nat) (base : Nat) (cA : Nat → ClassId) (σ : jS) : (jWs g base cA σ).length = σ.1 := by simp [jWs]
theorem jWs_get {g : jR → Nat} {base : Nat} {cA : Nat → ClassId} {σ : jS} {j : Nat} {r : jR} (h : j < σ.1) (hr : jRefs[j]? = some r) : (jWs g base cA σ)[j]? = some (base + j, jEn g cA σ r) := by
  simp [jWs, h, List.getD_eq_getElem?_getD, hr]
theorem jnd_inj {α : Type} {l : List α} (h : l.Nodup) {i j : Nat} (hi : i < l.length) (hj : j < l.length) (e : l[i] = l[j]) : i = j := by
  have hp := List.pairwise_iff_getElem.mp h
  rcases Nat.lt_trichotomy i j with z | z | z
  · exact absurd e (hp i j hi hj z)
  · exact z
  · exact absurd e.symm (hp j i hj hi z)
theorem jRefs_inj {i j : Nat} {r : jR} (hi : jRefs[i]? = some r) (hj : jRefs[j]? = some r) : i = j := by
  obtain ⟨h1, e1⟩ := List.getElem?_eq_some_iff.mp hi
  obtain ⟨h2, e2⟩ := List.getElem?_eq_some_iff.mp hj
  exact jnd_inj jRefs_nodup h1 h2 (e1.trans e2.symm)
theorem jWs_set {g : jR → Nat} {base : Nat} {cA : Nat → ClassId} {σ σ' : jS} {j : Nat} {r : jR} (hn : σ'.1 = σ.1) (hj : j < σ.1) (hr : jRefs[j]? = some r) (h512 : σ.1 ≤ 512)
    (ho : ∀ r' : jR, r' ≠ r → jEn g cA σ' r' = jEn g cA σ r') : jWs g base cA σ' = (jWs g base cA σ).set j (base + j, jEn g cA σ' r) := by
  apply List.ext_getElem?
  intro i
  by_cases hi : i < σ.1
  · obtain ⟨r', hr'⟩ : ∃ r', jRefs[i]? = some r' := by
      have : i < jRefs.length := by rw [jRefs_len]; omega
      exact ⟨_, List.getElem?_eq_getElem this⟩
    rw [jWs_get (by omega) hr']
    by_cases e : j = i
    · subst e
      cases hr.symm.trans hr'
      rw [List.getElem?_set_self (by rw [jWs_len]; exact hi)]
    · rw [List.getElem?_set_ne e, jWs_get hi hr', ho r' (fun z => e (jRefs_inj hr (z ▸ hr')))]
  · rw [List.getElem?_eq_none (by rw [jWs_len]; omega), List.getElem?_eq_none (by simp [jWs_len]; omega)]
theorem jWs_app {g : jR → Nat} {base : Nat} {cA : Nat → ClassId} {σ σ' : jS} {r : jR} (hn : σ'.1 = σ.1 + 1) (hr : jRefs[σ.1]? = some r)
    (ho : ∀ r' : jR, r' ≠ r → jEn g cA σ' r' = jEn g cA σ r') : jWs g base cA σ' = jWs g base cA σ ++ [(base + σ.1, jEn g cA σ' r)] := by
  have hl : σ.1 < jRefs.length := (List.getElem?_eq_some_iff.mp hr).1
  apply List.ext_getElem?
  intro i
  by_cases hi : i < σ.1
  · have hr' : jRefs[i]? = some jRefs[i] := List.getElem?_eq_getElem (by omega)
    rw [jWs_get (by omega) hr', List.getElem?_append_left (by rw [jWs_len]; exact hi), jWs_get hi hr', ho _ (fun z => by
      have := jRefs_inj hr (z ▸ hr')
      omega)]
  · rw [List.getElem?_append_right (by rw [jWs_len]; omega), jWs_len]
    by_cases e : i = σ.1
    · subst e
      rw [jWs_get (by omega) hr]
      simp
    · rw [List.getElem?_eq_none (by rw [jWs_len]; omega), List.getElem?_eq_none (by simp; omega)]
def jtys (cA : Nat → ClassId) : List (ClassId × FieldType) := [(cA 12, .int), (cA 13, .boolean), (cA 14, .byte), (cA 15, .object "PlayedLaws$House"), (cA 16, .object "PlayedLaws$Night")]
def jCar (U : State) : Prop := (∀ w ∈ jNest, va_Nw w U) ∧ va_AO "PlayedLaws$House" U ∧ va_AO "PlayedLaws$Night" U
theorem jCar_warm {s U : State} (hW : s.WarmedH U.vm) (h : jCar s) : jCar U := by
  refine ⟨fun w hw => ?_, h.2.1.moved hW.alike, h.2.2.moved hW.alike⟩
  have h1 := h.1 w hw
  have h2 : jIsNest w = true := (List.mem_filter.mp hw).2
  cases w <;> first
    | exact va_Nw.warmF hW h1
    | exact va_Nw.warmM hW h1
    | (simp [jIsNest] at h2)
def jPl (r : jR) (s : Nat) : Prop := (r.1 < 12 ∧ (jIsRefT.getD r.1 []).getD s false = true) ∨ ((r.1 = 15 ∨ r.1 = 16) ∧ s < jLen r.1 r.2)
def jok (n : Nat) (r : jR) : Prop := (∃ j, j < n ∧ jRefs[j]? = some r) ∨ r = (17, (0, 0)) ∨ r = (18, (0, 0))
def jokv (n : Nat) : jV → Prop
  | .inr (.inr (some r)) => jok n r
  | _ => True
def jcl (σ : jS) : Prop := ∀ r s, jok σ.1 r → jPl r s → (r, s) ∉ σ.2.1 → jok σ.1 (jrf r.1 r.2 s)
def jTxt : String := "s0,8,0;s2,6,1;s1,4,8;s3,12,2;s0,10,3;h0,2,9;h1,0,6;h0,1,14;h2,3,20;h0,0,5;h0,2,11;b01423;g25;"
/-- the string constant, and the statics that its methods read -/
def jXt (g : jR → Nat) (base : Nat) (U : State) (H : Heap) : Prop := vk_R "PlayedLaws" 77 jTxt (g (18, (0, 0))) U ∧ (∃ adV : Nat, vk_S 1 [jstr.length] [jstr] (fun _ => g (18, (0, 0))) (fun _ => adV) (fun q => base ≤ q) U H) ∧ va_Z "java/lang/String" "COMPACT_STRINGS" "Z" (.int 1) (fun q => base ≤ q) U H ∧ va_Zq "jdk/internal/util/Preconditions" "SIOOBE_FORMATTER" "Ljava/util/function/BiFunction;" (fun q => base ≤ q) U H
theorem jXt_warm {g : jR → Nat} {base : Nat} {s U : State} {H : Heap} (hW : s.WarmedH U.vm) (h : jXt g base s H) : jXt g base U H := by
  obtain ⟨h1, ⟨adV, h2⟩, h3, h4⟩ := h
  exact ⟨vk_R.warm hW h1, ⟨adV, h2.moved hW.alike⟩, h3.moved hW.alike, h4.moved hW.alike⟩
theorem jXt_kept {g : jR → Nat} {base : Nat} {U : State} {H H1 : Heap} (h : jXt g base U H) (hq : ∀ a : Nat, a < H.size → ¬ base ≤ a → H1[a]? = H[a]?) : jXt g base U H1 := by
  obtain ⟨h1, ⟨adV, h2⟩, h3, h4⟩ := h
  exact ⟨h1, ⟨adV, h2.kept hq⟩, h3.kept hq, h4.kept hq⟩
def jXs (g : jR → Nat) (b base L : Nat) (xs : Nat → Int32) (U : State) (H : Heap) : Prop := va_X b L xs U H ∧ jXt g base U H
def jRel (g : jR → Nat) (b base : Nat) (dC : Nat → ClassId) (dI : Nat → Nat → Nat) (cA : Nat → ClassId) (σ : jS) (U : State) (H : Heap) : Prop :=
  σ.1 ≤ 512 ∧ va_P (dC, dI) jCl (jWs g base cA σ) H ∧ va_K (dC, dI) jCl (jtys cA) U ∧ jCar U ∧ jXs g b base (jSL σ.2.2).toNatClampNeg (σ.2.2 17 (0, 0)) U H ∧ Int32.ofNat (jSL σ.2.2).toNatClampNeg = jSL σ.2.2 ∧ jcl σ
def jlr (g : jR → Nat) (mm : Nat) (ls : Array Slot) (al : jL) : Prop :=
  al.length = jMaxT.getD mm 0 ∧ ls.size = jMaxT.getD mm 0 ∧ lv_wf ls ∧ (∀ (i : Nat) (v : jV), al[i]? = some (some v) → ls[i]? = some (.val (jcv g v))) ∧ ∀ (i : Nat) (x : Int64), al[i]? = some (some (.inr (.inl x))) → i ∈ jLong mm
def jlv (g : jR → Nat) (al : jL) : List (Nat × Value) := al.zipIdx.filterMap (fun q => q.1.map (fun v => (q.2, jcv g v)))
theorem jlv_mem {g : jR → Nat} {al : jL} {i : Nat} {w : Value} : (i, w) ∈ jlv g al ↔ ∃ v, al[i]? = some (some v) ∧ w = jcv g v := by
  unfold jlv
  rw [List.mem_filterMap]
  constructor
  · rintro ⟨⟨x, k⟩, h1, h2⟩
    have h3 := List.mem_zipIdx_iff_getElem?.mp h1
    cases x with
    | none => simp at h2
    | some v =>
      simp at h2
      obtain ⟨e1, e2⟩ := h2
      subst e1
      exact ⟨v, h3, e2.symm⟩
  · rintro ⟨v, h1, h2⟩
    exact ⟨(some v, i), List.mem_zipIdx_iff_getElem?.mpr h1, by simp [h2]⟩
theorem jlr_has {g : jR → Nat} {mm : Nat} {ls : Array Slot} {al : jL} (h : jlr g mm ls al) : lv_has ls (jMaxT.getD mm 0) (jlv g al) :=
  ⟨h.2.1, h.2.2.1, fun q hq => by
    obtain ⟨v, h1, h2⟩ := jlv_mem.mp (show (q.1, q.2) ∈ jlv g al from hq)
    rw [h2]
    exact h.2.2.2.1 _ _ h1⟩
theorem jcv_cat {g : jR → Nat} {v : jV} (h : (jcv g v).category = 2) : ∃ x, v = .inr (.inl x) := by
  rcases v with x | x | _ | r
  · simp [jcv, Value.category] at h
  · exact ⟨x, rfl⟩
  · simp [jcv, Value.category] at h
  · simp [jcv, Value.category] at h
theorem jst_spec {mm : Nat} {al al' : jL} {i : Nat} {v : jV} (h : jst mm al i v = some al') : i < al.length ∧ i ∉ jLong mm ∧ (∀ j, i = j + 1 → j ∉ jLong mm) ∧ al' = al.set i (some v) := by
  unfold jst at h
  split at h
  · cases h
  · rename_i h1
    simp only [Bool.or_eq_true, Bool.and_eq_true, not_or, not_and, Nat.ble_eq, List.contains_iff_mem] at h1
    refine ⟨by omega, h1.1.2, fun j hj => ?_, (Option.some.inj h).symm⟩
    subst hj
    exact h1.2 (by omega)
/-- behind a store of one slot -/
theorem jlr_store {g : jR → Nat} {mm : Nat} {ls ls' : Array Slot} {al al' : jL} {i : Nat} {v : jV} (hv : (jcv g v).category = 1) (h : jlr g mm ls al) (hs : jst mm al i v = some al')
    (h' : lv_has ls' (jMaxT.getD mm 0) ((i, jcv g v) :: (jlv g al).filter (fun q => !(q.1 == i) && !(q.1 + 1 == i && q.2.category == 2)))) : jlr g mm ls' al' := by
  obtain ⟨h1, h2, h3, rfl⟩ := jst_spec hs
  refine ⟨by rw [List.length_set]; exact h.1, h'.1, h'.2.1, fun k w hk => ?_, fun k x hk => ?_⟩
  · by_cases e : i = k
    · subst e
      rw [List.getElem?_set_self h1] at hk
      cases hk
      exact h'.2.2 _ List.mem_cons_self
    · rw [List.getElem?_set_ne e] at hk
      refine h'.2.2 (k, jcv g w) (List.mem_cons_of_mem _ (List.mem_filter.mpr ⟨jlv_mem.mpr ⟨w, hk, rfl⟩, ?_⟩))
      have e1 : (k == i) = false := by simp; exact fun z => e z.symm
      simp only [e1, Bool.not_false, Bool.true_and, Bool.not_eq_true', Bool.and_eq_false_iff]
      by_cases e2 : k + 1 = i
      · right
        by_cases e3 : (jcv g w).category = 2
        · obtain ⟨x, rfl⟩ := jcv_cat e3
          exact absurd (h.2.2.2.2 k x hk) (h3 k e2.symm)
        · simp [e3]
      · left
        simp [e2]
  · by_cases e : i = k
    · subst e
      rw [List.getElem?_set_self h1] at hk
      cases hk
      simp [jcv, Value.category] at hv
    · rw [List.getElem?_set_ne e] at hk
      exact h.2.2.2.2 k x hk
end
section
/-! one instruction of the pure machine that is no call and no return is one of the machine -/
def jln : Instr → Nat
  | .aload _ | .iload _ | .istore _ | .astore _ | .lload _ | .lstore _ | .bipush _ | .ldc _ | .newarray _ => 2
  | .sipush _ | .ldc_w _ | .ldc2_w _ | .iinc .. | .goto _ | .ifCond .. | .if_icmp .. | .ifnull _ | .ifnonnull _ | .getfield _ | .putfield _ | .invokevirtual _ | .invokespecial _ | .invokestatic _ | .new _ | .anewarray _ => 3
  | .tableswitch .. | .lookupswitch .. => 0
  | _ => 1
theorem jln_all : (jCodeT.all fun x => x.all fun ch => ch.all fun e => jln e.2.1 == 0 || e.2.2 == jln e.2.1) = true := by decide +kernel
theorem jF_ln {m pc n : Nat} {I : Instr} (h : jF m pc = some (I, n)) : jln I = 0 ∨ n = jln I := by
  have h2 := jlookup_mem _ _ _ h
  have h0 : jCodeT.getD m [] ∈ jCodeT := by
    have hl : m < jCodeT.length := by rw [show jCodeT.length = 199 by decide +kernel]; exact jF_lt h
    rw [List.getD_eq_getElem?_getD, List.getElem?_eq_getElem hl]
    exact List.getElem_mem hl
  have h1 := List.all_eq_true.mp jln_all _ h0
  generalize jCodeT.getD m [] = X at h1 h2
  have h3 : X.getD (pc / 16) [] ∈ X ∨ X.getD (pc / 16) [] = [] := by
    rw [List.getD_eq_getElem?_getD]
    cases hq : X[pc / 16]? with
    | none => exact Or.inr rfl
    | some x => exact Or.inl (List.mem_of_getElem? hq)
  rcases h3 with h3 | h3
  · have h4 := List.all_eq_true.mp (List.all_eq_true.mp h1 _ h3) _ h2
    simpa using h4
  · rw [h3] at h2
    exact absurd h2 List.not_mem_nil
abbrev jva (n : Nat) (al : jL) : Prop := ∀ (i : Nat) (v : jV), al[i]? = some (some v) → jokv n v
abbrev jvs (n : Nat) (st : List jV) : Prop := ∀ v ∈ st, jokv n v
theorem jvs_tl {n : Nat} {v : jV} {st : List jV} (h : jvs n (v :: st)) : jvs n st := fun w hw => h w (List.mem_cons_of_mem _ hw)
theorem jvs_cons {n : Nat} {v : jV} {st : List jV} (h1 : jokv n v) (h : jvs n st) : jvs n (v :: st) := fun w hw => by
  rcases List.mem_cons.mp hw with rfl | hw
  · exact h1
  · exact h w hw
theorem jva_st {mm n i : Nat} {al al' : jL} {v : jV} (hs : jst mm al i v = some al') (h : jva n al) (hv : jokv n v) : jva n al' := by
  obtain ⟨h1, -, -, rfl⟩ := jst_spec hs
  intro k w hk
  by_cases e : i = k
  · subst e
    rw [List.getElem?_set_self h1] at hk
    cases hk
    exact hv
  · rw [List.getElem?_set_ne e] at hk
    exact h k w hk
theorem jbip {i : Int} (h : -128 ≤ i ∧ i < 128) : (Int8.ofInt i).toInt32 = Int32.ofInt i := by
  apply Int32.toInt_inj.mp
  rw [Int8.toInt_toInt32, Int8.toInt_ofInt_of_le (by simpa using h.1) (by simpa using h.2), Int32.toInt_ofInt_of_le (by simp; omega) (by simp; omega)]
theorem jsip {i : Int} (h : -32768 ≤ i ∧ i < 32768) : (Int16.ofInt i).toInt32 = Int32.ofInt i := by
  apply Int32.toInt_inj.mp
  rw [Int16.toInt_toInt32, Int16.toInt_ofInt_of_le (by simpa using h.1) (by simpa using h.2), Int32.toInt_ofInt_of_le (by simp; omega) (by simp; omega)]
theorem jTg_eq {pc : Nat} {off : Int} (h : 0 ≤ (pc : Int) + off) : (pc : Int) + off = (jTg pc off : Int) := by
  unfold jTg
  omega
theorem jsw_in {pc : Nat} {x : Int32} {dflt : Int} : ∀ (os : List Int) (lo : Int), lo ≤ x.toInt → x.toInt < lo + os.length → ∃ o, os[(x.toInt - lo).toNat]? = some o ∧ jsw pc x lo dflt os = ((pc : Int) + o).toNat
  | [], lo, h1, h2 => by simp at h2; omega
  | o :: os, lo, h1, h2 => by
    by_cases e : x.toInt = lo
    · exact ⟨o, by rw [e]; simp, by rw [jsw, if_pos e]⟩
    · obtain ⟨o', e1, e2⟩ := jsw_in (pc := pc) (x := x) (dflt := dflt) os (lo + 1) (by omega) (by simp at h2; omega)
      refine ⟨o', ?_, by rw [jsw, if_neg e]; exact e2⟩
      rw [show (x.toInt - lo).toNat = (x.toInt - (lo + 1)).toNat + 1 by omega, List.getElem?_cons_succ]
      exact e1
theorem jsw_out {pc : Nat} {x : Int32} {dflt : Int} : ∀ (os : List Int) (lo : Int), (x.toInt < lo ∨ lo + os.length ≤ x.toInt) → jsw pc x lo dflt os = ((pc : Int) + dflt).toNat
  | [], lo, _ => rfl
  | o :: os, lo, h => by
    simp at h
    rw [jsw, if_neg (by omega)]
    exact jsw_out (pc := pc) (x := x) (dflt := dflt) os (lo + 1) (by omega)
theorem jlk_eq {pc : Nat} {x : Int32} {dflt : Int} : ∀ (qs : List (Int × Int)), jlk pc x dflt qs = ((pc : Int) + Op.lookupswitch.offset qs dflt x.toInt).toNat ∧ (Op.lookupswitch.offset qs dflt x.toInt = dflt ∨ ∃ q ∈ qs, Op.lookupswitch.offset qs dflt x.toInt = q.2)
  | [] => ⟨rfl, Or.inl rfl⟩
  | q :: qs => by
    obtain ⟨a, o⟩ := q
    rw [Op.lookupswitch.offset_cons, jlk]
    by_cases e : x.toInt = a
    · rw [if_pos e]
      first | rw [if_pos e] | rw [if_pos e.symm]
      exact ⟨rfl, Or.inr ⟨_, List.mem_cons_self, rfl⟩⟩
    · rw [if_neg e]
      first | rw [if_neg e] | rw [if_neg (fun z => e z.symm)]
      obtain ⟨h1, h2⟩ := jlk_eq (pc := pc) (x := x) (dflt := dflt) qs
      refine ⟨h1, h2.imp id fun ⟨q, hq, h⟩ => ⟨q, List.mem_cons_of_mem _ hq, h⟩⟩
def jGd (g : jR → Nat) (b base : Nat) : Prop := (∀ (j : Nat) (r : jR), jRefs[j]? = some r → g r = base + j) ∧ g (17, (0, 0)) = b ∧ b < base
theorem jok_get {n : Nat} {r : jR} (h : jok n r) (hk : r.1 < 17) : ∃ j, j < n ∧ jRefs[j]? = some r := by
  rcases h with h | h | h
  · exact h
  · rw [h] at hk; simp at hk
  · rw [h] at hk; simp at hk
theorem jEn_obj {g : jR → Nat} {cA : Nat → ClassId} {σ : jS} {r : jR} (h : r.1 < 12) : jEn g cA σ r = .inr (r.1, jfs g σ r.1 r.2) := by
  unfold jEn; rw [if_pos h]
theorem jEn_ints {g : jR → Nat} {cA : Nat → ClassId} {σ : jS} {r : jR} (h : r.1 = 12 ∨ r.1 = 13 ∨ r.1 = 14) : jEn g cA σ r = .inl (cA r.1, (jLen r.1 r.2, .inl (fun j => σ.2.2 r.1 r.2 j))) := by
  unfold jEn; rw [if_neg (by omega), if_neg (by omega)]
theorem jEn_refs {g : jR → Nat} {cA : Nat → ClassId} {σ : jS} {r : jR} (h : r.1 = 15 ∨ r.1 = 16) : jEn g cA σ r = .inl (cA r.1, (jLen r.1 r.2, .inr (.inr (.inr (.inr (fun j => if σ.2.1.contains (r, j) then none else some (g (jrf r.1 r.2 j)))))))) := by
  unfold jEn; rw [if_neg (by omega), if_pos h]
theorem jfs_len {g : jR → Nat} {σ : jS} {k : Nat} {a : jA} : (jfs g σ k a).length = jN k := by simp [jfs, jN]
theorem jfs_at {g : jR → Nat} {σ : jS} {k s : Nat} {a : jA} (h : s < jN k) : (jfs g σ k a)[s]? = some (if (jIsRefT.getD k []).getD s false then (if σ.2.1.contains ((k, a), s) then .null else .ref (g (jrf k a s))) else .int (σ.2.2 k a s)) := by
  have h : s < jNT.getD k 0 := h
  simp only [jfs, List.getElem?_map, List.getElem?_range h, Option.map_some]
theorem jWs_D {g : jR → Nat} {base : Nat} {cA : Nat → ClassId} {σ : jS} (h : σ.1 ≤ 512) : va_D (fun q => base ≤ q) (jWs g base cA σ) := by
  have key : ∀ (i : Nat) (p : Nat × va_E), (jWs g base cA σ)[i]? = some p → p.1 = base + i := by
    intro i p hp
    simp only [jWs, List.getElem?_map, Option.map_eq_some_iff] at hp
    obtain ⟨j, h1, h2⟩ := hp
    have h3 := (List.getElem?_eq_some_iff.mp h1)
    obtain ⟨h4, h5⟩ := h3
    simp at h5
    subst h5
    rw [← h2]
  refine ⟨fun i j p q hi hj e => ?_, fun k q hk => ?_⟩
  · have h1 := key i p hi
    have h2 := key j q hj
    omega
  · rw [key k q hk]
    omega
theorem lrem_eq_mod (x y : Int64) : x - (x / y) * y = x % y := by
  apply Int64.toInt_inj.mp
  have h1 := Int64.le_toInt (x % y)
  have h2 := Int64.toInt_lt (x % y)
  rw [Int64.toInt_sub, Int64.toInt_mul, Int64.toInt_div, Int.bmod_mul_bmod, Int.sub_bmod_bmod, Int.mul_comm (x.toInt.tdiv y.toInt), ← Int.tmod_def, ← Int64.toInt_mod]
  exact Int.bmod_eq_of_le_mul_two (by omega) (by omega)
end
section
/-! one instruction: locals, stack, numbers, branches -/
section JSIM
variable {p : Program} {l : Launch} {e : Env} {R : Room} {s : State} {m : MethodId} {args : Array Value} {below : List Frame} {meth : Method} {c : Code} {Q : State → Prop}
variable {g : jR → Nat} {b base : Nat} {dC : Nat → ClassId} {dI : Nat → Nat → Nat} {cA : Nat → ClassId}
/-- the method's own: machine, code, class, words, room for natives -/
def jStat (p : Program) (R : Room) (s : State) (m : MethodId) (args : Array Value) (meth : Method) (c : Code) (base mm : Nat) : Prop :=
  p.tables.exec = Jvm.exec ∧ c.code = jBytesT.getD mm .empty ∧ c.maxLocals = jMaxT.getD mm 0 ∧ s.vm.findClass (jC (jOwn mm)) = some m.cls ∧ (∀ w ∈ jTs, w.before args s = true) ∧ meth.locks = false ∧ (jInitT.getD mm false = true → meth.name = "<init>") ∧ base ≤ s.heap.size ∧ 1 ≤ R.frames ∧ 1000 ≤ R.locals
/-- the state at a frame -/
def jNow (g : jR → Nat) (b base : Nat) (dC : Nat → ClassId) (dI : Nat → Nat → Nat) (cA : Nat → ClassId) (s : State) (mm : Nat) (al : jL) (st : List jV) (σ : jS) (ls : Array Slot) (H : Heap) (locs : List Loc) : Prop :=
  jRel g b base dC dI cA σ s H ∧ jlr g mm ls al ∧ jva σ.1 al ∧ jvs σ.1 st ∧ va_S (fun q => base ≤ q) s.heap H locs
theorem jlr_at {mm : Nat} {ls : Array Slot} {al : jL} {i : Nat} {v : jV} (h : jlr g mm ls al) (ha : al[i]? = some (some v)) : ls[i]? = some (.val (jcv g v)) := h.2.2.2.1 i v ha
theorem jnow_st {mm : Nat} {al : jL} {st st' : List jV} {σ : jS} {ls : Array Slot} {H : Heap} {locs : List Loc} (h : jNow g b base dC dI cA s mm al st σ ls H locs) (h' : jvs σ.1 st') : jNow g b base dC dI cA s mm al st' σ ls H locs :=
  ⟨h.1, h.2.1, h.2.2.1, h', h.2.2.2.2⟩
theorem jnow_lo {mm i : Nat} {al al' : jL} {v : jV} {st st' : List jV} {σ : jS} {ls ls' : Array Slot} {H : Heap} {locs : List Loc} (h : jNow g b base dC dI cA s mm al st σ ls H locs) (h' : jvs σ.1 st') (hv : (jcv g v).category = 1) (ho : jokv σ.1 v) (hs : jst mm al i v = some al')
    (hh : lv_has ls' (jMaxT.getD mm 0) ((i, jcv g v) :: (jlv g al).filter (fun q => !(q.1 == i) && !(q.1 + 1 == i && q.2.category == 2)))) : jNow g b base dC dI cA s mm al' st' σ ls' H locs :=
  ⟨h.1, jlr_store hv h.2.1 hs hh, jva_st hs h.2.2.1 ho, h', h.2.2.2.2⟩
theorem jst_lt {mm i : Nat} {al al' : jL} {v : jV} {ls : Array Slot} (h : jlr g mm ls al) (hs : jst mm al i v = some al') : i < jMaxT.getD mm 0 := by
  rw [← h.1]
  exact (jst_spec hs).1
def jNum : Instr → Bool
  | .iconst _ | .bipush _ | .sipush _ | .lconst _ | .aconst_null | .ldc_w _ | .ldc2_w _ | .iload _ | .iload_n _ | .lload _ | .lload_n _ | .aload _ | .aload_n _ | .istore _ | .istore_n _ | .astore _ | .astore_n _ | .lstore _ | .iinc .. | .pop | .dup | .dup2 => true
  | .iadd | .isub | .imul | .idiv | .irem | .iand | .ior | .ixor | .ishl | .ishr | .iushr | .ineg | .i2b | .i2l | .l2i | .ladd | .lmul | .lrem => true
  | .goto _ | .ifCond .. | .if_icmp .. | .ifnull _ | .ifnonnull _ | .tableswitch .. | .lookupswitch .. => true
  | _ => false
theorem jval_st {n : Nat} {i : Nat} {al : jL} {v : jV} (h : jva n al) (ha : al[i]? = some (some v)) : jokv n v := h i v ha
set_option maxHeartbeats 8000000 in
set_option maxRecDepth 20000 in
theorem jsim_num {cells slots mm pc n : Nat} {al al' : jL} {st st' : List jV} {σ σ' : jS} {pc' : Nat} {I : Instr} {ls : Array Slot} {H : Heap} {locs : List Loc} (hI : jNum I = true)
    (C0 : jStat p R s m args meth c base mm) (hF : jF mm pc = some (I, n)) (h : jexe mm pc n al st σ I = some (.inl (pc', (al', (st', σ'))))) (N : jNow g b base dC dI cA s mm al st σ ls H locs)
    (K : σ' = σ → ∀ ls' : Array Slot, jNow g b base dC dI cA s mm al' st' σ ls' H locs → W p l e R s m args below meth c H locs cells slots Q (F0 m pc' ls' (st'.map (jcv g)))) :
    W p l e R s m args below meth c H locs cells slots Q (F0 m pc ls (st.map (jcv g))) := by
  obtain ⟨hx, hb, hml, hown, hts, hlk, hin, hbs, hfr, hlo⟩ := C0
  have hd := jF_dec hF
  have hn := jF_ln hF
  have hl := N.2.1
  have hva := N.2.2.1
  have hvs := N.2.2.2.1
  cases I with
  | iconst i =>
    simp only [jln] at hn
    obtain rfl : n = 1 := by omega
    simp only [jexe] at h
    cases h
    exact lv_iconst hx hb hd rfl (K rfl ls (jnow_st N (jvs_cons trivial hvs)))
  | bipush i =>
    simp only [jln] at hn
    obtain rfl : n = 2 := by omega
    simp only [jexe] at h
    split at h
    · rename_i q
      cases h
      exact lv_bipush hx hb hd (jbip q) (K rfl ls (jnow_st N (jvs_cons trivial hvs)))
    · cases h
  | sipush i =>
    simp only [jln] at hn
    obtain rfl : n = 3 := by omega
    simp only [jexe] at h
    split at h
    · rename_i q
      cases h
      exact lv_sipush hx hb hd (jsip q) (K rfl ls (jnow_st N (jvs_cons trivial hvs)))
    · cases h
  | lconst i =>
    simp only [jln] at hn
    obtain rfl : n = 1 := by omega
    simp only [jexe] at h
    cases h
    exact lv_lconst hx hb hd rfl (K rfl ls (jnow_st N (jvs_cons trivial hvs)))
  | aconst_null =>
    simp only [jln] at hn
    obtain rfl : n = 1 := by omega
    simp only [jexe] at h
    cases h
    exact lv_null hx hb hd (K rfl ls (jnow_st N (jvs_cons trivial hvs)))
  | ldc_w i =>
    simp only [jln] at hn
    obtain rfl : n = 3 := by omega
    simp only [jexe] at h
    split at h
    · rename_i x q
      cases h
      exact lv_ldcw hx hb hown (hts _ (jcst q)) hd (K rfl ls (jnow_st N (jvs_cons trivial hvs)))
    · cases h
  | ldc2_w i =>
    simp only [jln] at hn
    obtain rfl : n = 3 := by omega
    simp only [jexe] at h
    split at h
    · rename_i x q
      cases h
      exact lv_ldc2 hx hb hown (hts _ (jlng q)) hd (K rfl ls (jnow_st N (jvs_cons trivial hvs)))
    · cases h
  | iload i =>
    simp only [jln] at hn
    obtain rfl : n = 2 := by omega
    simp only [jexe] at h
    split at h
    · rename_i x q
      cases h
      exact lv_iload hx hb hd (jlr_at hl q) (K rfl ls (jnow_st N (jvs_cons trivial hvs)))
    · cases h
  | iload_n i =>
    simp only [jln] at hn
    obtain rfl : n = 1 := by omega
    simp only [jexe] at h
    split at h
    · rename_i x q
      cases h
      exact lv_iload_n hx hb hd rfl (jlr_at hl q) (K rfl ls (jnow_st N (jvs_cons trivial hvs)))
    · cases h
  | lload i =>
    simp only [jln] at hn
    obtain rfl : n = 2 := by omega
    simp only [jexe] at h
    split at h
    · rename_i x q
      cases h
      exact lv_lload hx hb hd (jlr_at hl q) (K rfl ls (jnow_st N (jvs_cons trivial hvs)))
    · cases h
  | lload_n i =>
    simp only [jln] at hn
    obtain rfl : n = 1 := by omega
    simp only [jexe] at h
    split at h
    · rename_i x q
      cases h
      exact lv_lload_n hx hb hd rfl (jlr_at hl q) (K rfl ls (jnow_st N (jvs_cons trivial hvs)))
    · cases h
  | aload i =>
    simp only [jln] at hn
    obtain rfl : n = 2 := by omega
    simp only [jexe] at h
    split at h
    · rename_i x q
      cases h
      rcases x with _ | r
      · exact lv_aloadN hx hb hd (jlr_at hl q) (K rfl ls (jnow_st N (jvs_cons trivial hvs)))
      · exact lv_aload hx hb hd (jlr_at hl q) (K rfl ls (jnow_st N (jvs_cons (jval_st hva q) hvs)))
    · cases h
  | aload_n i =>
    simp only [jln] at hn
    obtain rfl : n = 1 := by omega
    simp only [jexe] at h
    split at h
    · rename_i x q
      cases h
      rcases x with _ | r
      · exact lv_aload_nN hx hb hd rfl (jlr_at hl q) (K rfl ls (jnow_st N (jvs_cons trivial hvs)))
      · exact lv_aload_n hx hb hd rfl (jlr_at hl q) (K rfl ls (jnow_st N (jvs_cons (jval_st hva q) hvs)))
    · cases h
  | istore i =>
    simp only [jln] at hn
    obtain rfl : n = 2 := by omega
    simp only [jexe] at h
    split at h
    · split at h
      · rename_i q
        cases h
        exact lv_istore hx hb hd (jlr_has hl) (jst_lt hl q) rfl (fun ls' hh => K rfl ls' (jnow_lo (v := .inl _) N (jvs_tl hvs) rfl trivial q hh))
      · cases h
    · cases h
  | istore_n i =>
    simp only [jln] at hn
    obtain rfl : n = 1 := by omega
    simp only [jexe] at h
    split at h
    · split at h
      · rename_i q
        cases h
        exact lv_istore_n hx hb hd rfl (jlr_has hl) (jst_lt hl q) rfl (fun ls' hh => K rfl ls' (jnow_lo (v := .inl _) N (jvs_tl hvs) rfl trivial q hh))
      · cases h
    · cases h
  | astore i =>
    simp only [jln] at hn
    obtain rfl : n = 2 := by omega
    simp only [jexe] at h
    split at h
    · rename_i x st0
      split at h
      · rename_i q
        cases h
        rcases x with _ | r
        · exact lv_astoreN hx hb hd (jlr_has hl) (jst_lt hl q) rfl (fun ls' hh => K rfl ls' (jnow_lo (v := jNl) N (jvs_tl hvs) rfl trivial q hh))
        · exact lv_astore hx hb hd (jlr_has hl) (jst_lt hl q) rfl (fun ls' hh => K rfl ls' (jnow_lo (v := jRf r) N (jvs_tl hvs) rfl (hvs _ List.mem_cons_self) q hh))
      · cases h
    · cases h
  | astore_n i =>
    simp only [jln] at hn
    obtain rfl : n = 1 := by omega
    simp only [jexe] at h
    split at h
    · rename_i x st0
      split at h
      · rename_i q
        cases h
        rcases x with _ | r
        · exact lv_astore_nN hx hb hd rfl (jlr_has hl) (jst_lt hl q) rfl (fun ls' hh => K rfl ls' (jnow_lo (v := jNl) N (jvs_tl hvs) rfl trivial q hh))
        · exact lv_astore_n hx hb hd rfl (jlr_has hl) (jst_lt hl q) rfl (fun ls' hh => K rfl ls' (jnow_lo (v := jRf r) N (jvs_tl hvs) rfl (hvs _ List.mem_cons_self) q hh))
      · cases h
    · cases h
  | lstore i =>
    simp only [jln] at hn
    obtain rfl : n = 2 := by omega
    simp only [jexe] at h
    split at h
    · rename_i x st0
      split at h
      · rename_i q
        cases h
        refine lv_lstore hx hb hd (jlr_has hl) (by rw [← hl.1]; exact q.2) rfl (fun ls' hh => K rfl ls' ⟨N.1, ?_, ?_, jvs_tl hvs, N.2.2.2.2⟩)
        · refine ⟨by simp [hl.1], hh.1, hh.2.1, fun k w hk => ?_, fun k x' hk => ?_⟩
          · by_cases e : i = k
            · subst e
              rw [List.getElem?_set_self (by rw [List.length_set]; omega)] at hk
              cases hk
              exact hh.2.2 _ List.mem_cons_self
            · rw [List.getElem?_set_ne e] at hk
              by_cases e1 : i + 1 = k
              · subst e1
                rw [List.getElem?_set_self q.2] at hk
                cases hk
              · rw [List.getElem?_set_ne e1] at hk
                refine hh.2.2 (k, jcv g w) (List.mem_cons_of_mem _ (List.mem_filter.mpr ⟨jlv_mem.mpr ⟨w, hk, rfl⟩, ?_⟩))
                have f1 : (k == i) = false := by simp; exact fun z => e z.symm
                have f2 : (k == i + 1) = false := by simp; exact fun z => e1 z.symm
                have f3 : ((jcv g w).category == 2 && k + 1 == i) = false := by
                  by_cases e3 : (jcv g w).category = 2
                  · obtain ⟨y, rfl⟩ := jcv_cat e3
                    have := hl.2.2.2.2 k y hk
                    rw [q.1] at this
                    exact absurd (List.mem_singleton.mp this) (fun z => e z.symm)
                  · simp [e3]
                simp only [f1, f2, Bool.not_false, Bool.true_and, Bool.not_eq_true']
                rw [Bool.and_comm]
                exact f3
          · by_cases e : i = k
            · subst e
              rw [q.1]
              exact List.mem_singleton.mpr rfl
            · rw [List.getElem?_set_ne e] at hk
              by_cases e1 : i + 1 = k
              · subst e1
                rw [List.getElem?_set_self q.2] at hk
                cases hk
              · rw [List.getElem?_set_ne e1] at hk
                exact hl.2.2.2.2 k x' hk
        · intro k w hk
          by_cases e : i = k
          · subst e
            rw [List.getElem?_set_self (by rw [List.length_set]; omega)] at hk
            cases hk
            trivial
          · rw [List.getElem?_set_ne e] at hk
            by_cases e1 : i + 1 = k
            · subst e1
              rw [List.getElem?_set_self q.2] at hk
              cases hk
            · rw [List.getElem?_set_ne e1] at hk
              exact hva k w hk
      · cases h
    · cases h
  | iinc i k =>
    simp only [jexe] at h
    split at h
    · rename_i x q0
      split at h
      · rename_i al1 q
        split at h
        · rename_i q3
          subst q3
          cases h
          have hh0 : lv_has ls (jMaxT.getD mm 0) ((i, .int x) :: jlv g al) := ⟨(jlr_has hl).1, (jlr_has hl).2.1, fun w hw => by
            rcases List.mem_cons.mp hw with rfl | hw
            · exact jlr_at hl q0
            · exact (jlr_has hl).2.2 w hw⟩
          refine lv_iinc (k := 0) hx hb hd hh0 rfl rfl (jst_lt hl q) rfl (fun ls' hh => K rfl ls' (jnow_lo (v := jI (x + Int32.ofInt k)) N hvs rfl trivial q ?_))
          refine ⟨hh.1, hh.2.1, fun w hw => hh.2.2 w ?_⟩
          rcases List.mem_cons.mp hw with rfl | hw
          · exact List.mem_cons_self
          · refine List.mem_cons_of_mem _ (List.mem_filter.mpr ⟨List.mem_cons_of_mem _ (List.mem_filter.mp hw).1, (List.mem_filter.mp hw).2⟩)
        · cases h
      · cases h
    · cases h
  | pop =>
    simp only [jln] at hn
    obtain rfl : n = 1 := by omega
    simp only [jexe] at h
    split at h
    · cases h
      exact lv_pop hx hb hd rfl (K rfl ls (jnow_st N (jvs_tl hvs)))
    · cases h
  | dup =>
    simp only [jln] at hn
    obtain rfl : n = 1 := by omega
    simp only [jexe] at h
    split at h
    · cases h
      exact lv_dup hx hb hd rfl (K rfl ls (jnow_st N (jvs_cons trivial hvs)))
    · rename_i x st0
      cases h
      rcases x with _ | r
      · exact lv_dup hx hb hd rfl (K rfl ls (jnow_st N (jvs_cons trivial hvs)))
      · exact lv_dup hx hb hd rfl (K rfl ls (jnow_st N (jvs_cons (hvs _ List.mem_cons_self) hvs)))
    · cases h
  | dup2 =>
    simp only [jln] at hn
    obtain rfl : n = 1 := by omega
    simp only [jexe] at h
    split at h
    · rename_i x y st0
      cases h
      rcases y with _ | r
      · exact lv_dup2_11 hx hb hd rfl rfl (K rfl ls (jnow_st N (jvs_cons trivial (jvs_cons trivial hvs))))
      · exact lv_dup2_11 hx hb hd rfl rfl (K rfl ls (jnow_st N (jvs_cons trivial (jvs_cons (hvs _ (List.mem_cons_of_mem _ List.mem_cons_self)) hvs))))
    · cases h
  | iadd =>
    simp only [jln] at hn
    obtain rfl : n = 1 := by omega
    simp only [jexe] at h
    split at h
    · cases h
      exact lv_iadd hx hb hd (K rfl ls (jnow_st N (jvs_cons trivial (jvs_tl (jvs_tl hvs)))))
    · cases h
  | isub =>
    simp only [jln] at hn
    obtain rfl : n = 1 := by omega
    simp only [jexe] at h
    split at h
    · cases h
      exact lv_isub hx hb hd (K rfl ls (jnow_st N (jvs_cons trivial (jvs_tl (jvs_tl hvs)))))
    · cases h
  | imul =>
    simp only [jln] at hn
    obtain rfl : n = 1 := by omega
    simp only [jexe] at h
    split at h
    · cases h
      exact lv_imul hx hb hd (K rfl ls (jnow_st N (jvs_cons trivial (jvs_tl (jvs_tl hvs)))))
    · cases h
  | iand =>
    simp only [jln] at hn
    obtain rfl : n = 1 := by omega
    simp only [jexe] at h
    split at h
    · cases h
      exact lv_iand hx hb hd (K rfl ls (jnow_st N (jvs_cons trivial (jvs_tl (jvs_tl hvs)))))
    · cases h
  | ior =>
    simp only [jln] at hn
    obtain rfl : n = 1 := by omega
    simp only [jexe] at h
    split at h
    · cases h
      exact lv_ior hx hb hd (K rfl ls (jnow_st N (jvs_cons trivial (jvs_tl (jvs_tl hvs)))))
    · cases h
  | ixor =>
    simp only [jln] at hn
    obtain rfl : n = 1 := by omega
    simp only [jexe] at h
    split at h
    · cases h
      exact lv_ixor hx hb hd (K rfl ls (jnow_st N (jvs_cons trivial (jvs_tl (jvs_tl hvs)))))
    · cases h
  | ishl =>
    simp only [jln] at hn
    obtain rfl : n = 1 := by omega
    simp only [jexe] at h
    split at h
    · cases h
      exact lv_ishl hx hb hd (K rfl ls (jnow_st N (jvs_cons trivial (jvs_tl (jvs_tl hvs)))))
    · cases h
  | ishr =>
    simp only [jln] at hn
    obtain rfl : n = 1 := by omega
    simp only [jexe] at h
    split at h
    · cases h
      exact lv_ishr hx hb hd (K rfl ls (jnow_st N (jvs_cons trivial (jvs_tl (jvs_tl hvs)))))
    · cases h
  | ladd =>
    simp only [jln] at hn
    obtain rfl : n = 1 := by omega
    simp only [jexe] at h
    split at h
    · cases h
      exact lv_ladd hx hb hd (K rfl ls (jnow_st N (jvs_cons trivial (jvs_tl (jvs_tl hvs)))))
    · cases h
  | lmul =>
    simp only [jln] at hn
    obtain rfl : n = 1 := by omega
    simp only [jexe] at h
    split at h
    · cases h
      exact lv_lmul hx hb hd (K rfl ls (jnow_st N (jvs_cons trivial (jvs_tl (jvs_tl hvs)))))
    · cases h
  | iushr =>
    simp only [jln] at hn
    obtain rfl : n = 1 := by omega
    simp only [jexe] at h
    split at h
    · cases h
      exact lv_iushr hx hb hd rfl (K rfl ls (jnow_st N (jvs_cons trivial (jvs_tl (jvs_tl hvs)))))
    · cases h
  | idiv =>
    simp only [jln] at hn
    obtain rfl : n = 1 := by omega
    simp only [jexe] at h
    split at h
    · split at h
      · cases h
      · rename_i q
        cases h
        exact lv_idiv hx hb hd q (K rfl ls (jnow_st N (jvs_cons trivial (jvs_tl (jvs_tl hvs)))))
    · cases h
  | irem =>
    simp only [jln] at hn
    obtain rfl : n = 1 := by omega
    simp only [jexe] at h
    split at h
    · rename_i y x st0
      split at h
      · cases h
      · rename_i q
        cases h
        have hk := K rfl ls (jnow_st N (jvs_cons trivial (jvs_tl (jvs_tl hvs))))
        refine lv_irem hx hb hd q ?_
        rw [irem_eq_mod]
        exact hk
    · cases h
  | lrem =>
    simp only [jln] at hn
    obtain rfl : n = 1 := by omega
    simp only [jexe] at h
    split at h
    · rename_i y x st0
      split at h
      · cases h
      · rename_i q
        cases h
        have hk := K rfl ls (jnow_st N (jvs_cons trivial (jvs_tl (jvs_tl hvs))))
        refine lv_lrem hx hb hd q ?_
        rw [lrem_eq_mod]
        exact hk
    · cases h
  | ineg =>
    simp only [jln] at hn
    obtain rfl : n = 1 := by omega
    simp only [jexe] at h
    split at h
    · cases h
      exact lv_ineg hx hb hd (K rfl ls (jnow_st N (jvs_cons trivial (jvs_tl hvs))))
    · cases h
  | i2b =>
    simp only [jln] at hn
    obtain rfl : n = 1 := by omega
    simp only [jexe] at h
    split at h
    · cases h
      exact lv_i2b hx hb hd rfl (K rfl ls (jnow_st N (jvs_cons trivial (jvs_tl hvs))))
    · cases h
  | i2l =>
    simp only [jln] at hn
    obtain rfl : n = 1 := by omega
    simp only [jexe] at h
    split at h
    · cases h
      exact lv_i2l hx hb hd rfl (K rfl ls (jnow_st N (jvs_cons trivial (jvs_tl hvs))))
    · cases h
  | l2i =>
    simp only [jln] at hn
    obtain rfl : n = 1 := by omega
    simp only [jexe] at h
    split at h
    · cases h
      exact lv_l2i hx hb hd rfl (K rfl ls (jnow_st N (jvs_cons trivial (jvs_tl hvs))))
    · cases h
  | goto off =>
    simp only [jexe] at h
    split at h
    · rename_i q
      obtain ⟨q, rfl⟩ := q
      cases h
      exact lv_goto hx hb hd (jTg_eq q) (K rfl ls N)
    · cases h
  | ifCond k off =>
    simp only [jexe] at h
    split at h
    · cases k
      · simp only [jbr] at h
        split at h
        · rename_i q
          obtain ⟨q, rfl⟩ := q
          cases h
          refine lv_if_eq hx hb hd (jTg_eq q) (fun z => ?_) (fun z => ?_)
          · have hk := K rfl ls (jnow_st N (jvs_tl hvs))
            first | rwa [if_pos z] at hk
          · have hk := K rfl ls (jnow_st N (jvs_tl hvs))
            first | rwa [if_neg z] at hk | rwa [if_neg (fun w => w z)] at hk
        · cases h
      · simp only [jbr] at h
        split at h
        · rename_i q
          obtain ⟨q, rfl⟩ := q
          cases h
          refine lv_if_ne hx hb hd (jTg_eq q) (fun z => ?_) (fun z => ?_)
          · have hk := K rfl ls (jnow_st N (jvs_tl hvs))
            first | rwa [if_pos z] at hk
          · have hk := K rfl ls (jnow_st N (jvs_tl hvs))
            first | rwa [if_neg z] at hk | rwa [if_neg (fun w => w z)] at hk
        · cases h
      · simp only [jbr] at h
        split at h
        · rename_i q
          obtain ⟨q, rfl⟩ := q
          cases h
          refine lv_if_lt hx hb hd (jTg_eq q) (fun z => ?_) (fun z => ?_)
          · have hk := K rfl ls (jnow_st N (jvs_tl hvs))
            first | rwa [if_pos z] at hk
          · have hk := K rfl ls (jnow_st N (jvs_tl hvs))
            first | rwa [if_neg z] at hk | rwa [if_neg (fun w => w z)] at hk
        · cases h
      · simp only [jbr] at h
        split at h
        · rename_i q
          obtain ⟨q, rfl⟩ := q
          cases h
          refine lv_if_ge hx hb hd (jTg_eq q) (fun z => ?_) (fun z => ?_)
          · have hk := K rfl ls (jnow_st N (jvs_tl hvs))
            first | rwa [if_pos z] at hk
          · have hk := K rfl ls (jnow_st N (jvs_tl hvs))
            first | rwa [if_neg z] at hk | rwa [if_neg (fun w => w z)] at hk
        · cases h
      · simp only [jbr] at h
        split at h
        · rename_i q
          obtain ⟨q, rfl⟩ := q
          cases h
          refine lv_if_gt hx hb hd (jTg_eq q) (fun z => ?_) (fun z => ?_)
          · have hk := K rfl ls (jnow_st N (jvs_tl hvs))
            first | rwa [if_pos z] at hk
          · have hk := K rfl ls (jnow_st N (jvs_tl hvs))
            first | rwa [if_neg z] at hk | rwa [if_neg (fun w => w z)] at hk
        · cases h
      · simp only [jbr] at h
        split at h
        · rename_i q
          obtain ⟨q, rfl⟩ := q
          cases h
          refine lv_if_le hx hb hd (jTg_eq q) (fun z => ?_) (fun z => ?_)
          · have hk := K rfl ls (jnow_st N (jvs_tl hvs))
            first | rwa [if_pos z] at hk
          · have hk := K rfl ls (jnow_st N (jvs_tl hvs))
            first | rwa [if_neg z] at hk | rwa [if_neg (fun w => w z)] at hk
        · cases h
    · cases h
  | if_icmp k off =>
    simp only [jexe] at h
    split at h
    · cases k
      · simp only [jbr] at h
        split at h
        · rename_i q
          obtain ⟨q, rfl⟩ := q
          cases h
          refine lv_icmp_eq hx hb hd (jTg_eq q) (fun z => ?_) (fun z => ?_)
          · have hk := K rfl ls (jnow_st N (jvs_tl (jvs_tl hvs)))
            first | rwa [if_pos z] at hk
          · have hk := K rfl ls (jnow_st N (jvs_tl (jvs_tl hvs)))
            first | rwa [if_neg z] at hk | rwa [if_neg (fun w => w z)] at hk
        · cases h
      · simp only [jbr] at h
        split at h
        · rename_i q
          obtain ⟨q, rfl⟩ := q
          cases h
          refine lv_icmp_ne hx hb hd (jTg_eq q) (fun z => ?_) (fun z => ?_)
          · have hk := K rfl ls (jnow_st N (jvs_tl (jvs_tl hvs)))
            first | rwa [if_pos z] at hk
          · have hk := K rfl ls (jnow_st N (jvs_tl (jvs_tl hvs)))
            first | rwa [if_neg z] at hk | rwa [if_neg (fun w => w z)] at hk
        · cases h
      · simp only [jbr] at h
        split at h
        · rename_i q
          obtain ⟨q, rfl⟩ := q
          cases h
          refine lv_icmp_lt hx hb hd (jTg_eq q) (fun z => ?_) (fun z => ?_)
          · have hk := K rfl ls (jnow_st N (jvs_tl (jvs_tl hvs)))
            first | rwa [if_pos z] at hk
          · have hk := K rfl ls (jnow_st N (jvs_tl (jvs_tl hvs)))
            first | rwa [if_neg z] at hk | rwa [if_neg (fun w => w z)] at hk
        · cases h
      · simp only [jbr] at h
        split at h
        · rename_i q
          obtain ⟨q, rfl⟩ := q
          cases h
          refine lv_icmp_ge hx hb hd (jTg_eq q) (fun z => ?_) (fun z => ?_)
          · have hk := K rfl ls (jnow_st N (jvs_tl (jvs_tl hvs)))
            first | rwa [if_pos z] at hk
          · have hk := K rfl ls (jnow_st N (jvs_tl (jvs_tl hvs)))
            first | rwa [if_neg z] at hk | rwa [if_neg (fun w => w z)] at hk
        · cases h
      · simp only [jbr] at h
        split at h
        · rename_i q
          obtain ⟨q, rfl⟩ := q
          cases h
          refine lv_icmp_gt hx hb hd (jTg_eq q) (fun z => ?_) (fun z => ?_)
          · have hk := K rfl ls (jnow_st N (jvs_tl (jvs_tl hvs)))
            first | rwa [if_pos z] at hk
          · have hk := K rfl ls (jnow_st N (jvs_tl (jvs_tl hvs)))
            first | rwa [if_neg z] at hk | rwa [if_neg (fun w => w z)] at hk
        · cases h
      · simp only [jbr] at h
        split at h
        · rename_i q
          obtain ⟨q, rfl⟩ := q
          cases h
          refine lv_icmp_le hx hb hd (jTg_eq q) (fun z => ?_) (fun z => ?_)
          · have hk := K rfl ls (jnow_st N (jvs_tl (jvs_tl hvs)))
            first | rwa [if_pos z] at hk
          · have hk := K rfl ls (jnow_st N (jvs_tl (jvs_tl hvs)))
            first | rwa [if_neg z] at hk | rwa [if_neg (fun w => w z)] at hk
        · cases h
    · cases h
  | ifnull off =>
    simp only [jexe] at h
    split at h
    · simp only [jbr, if_true] at h
      split at h
      · rename_i q
        obtain ⟨q, rfl⟩ := q
        cases h
        exact lv_ifnullN hx hb hd (jTg_eq q) (K rfl ls (jnow_st N (jvs_tl hvs)))
      · cases h
    · simp only [jbr, if_false] at h
      split at h
      · rename_i q
        obtain ⟨q, rfl⟩ := q
        cases h
        exact lv_ifnull hx hb hd (K rfl ls (jnow_st N (jvs_tl hvs)))
      · cases h
    · cases h
  | ifnonnull off =>
    simp only [jexe] at h
    split at h
    · simp only [jbr, if_false] at h
      split at h
      · rename_i q
        obtain ⟨q, rfl⟩ := q
        cases h
        exact lv_ifnonnullN hx hb hd (K rfl ls (jnow_st N (jvs_tl hvs)))
      · cases h
    · simp only [jbr, if_true] at h
      split at h
      · rename_i q
        obtain ⟨q, rfl⟩ := q
        cases h
        exact lv_ifnonnull hx hb hd (jTg_eq q) (K rfl ls (jnow_st N (jvs_tl hvs)))
      · cases h
    · cases h
  | tableswitch dflt lo hi offs =>
    simp only [jexe] at h
    split at h
    · rename_i x st0
      split at h
      · rename_i q
        obtain ⟨⟨q1, q2⟩, q3⟩ := q
        cases h
        have hk := K rfl ls (jnow_st N (jvs_tl hvs))
        by_cases z : x.toInt < lo ∨ hi < x.toInt
        · have e1 := jsw_out (pc := pc) (x := x) (dflt := dflt) offs.toList lo (by omega)
          rw [e1] at hk
          exact lv_tableOut hx hb hd z (jTg_eq q1) hk
        · obtain ⟨o, e1, e2⟩ := jsw_in (pc := pc) (x := x) (dflt := dflt) offs.toList lo (by omega) (by omega)
          rw [e2] at hk
          have q4 : 0 ≤ (pc : Int) + o := by
            have := List.all_eq_true.mp q2 o (List.mem_of_getElem? e1)
            exact of_decide_eq_true this
          exact lv_tableIn hx hb hd (fun w => z (Or.inl w)) (fun w => z (Or.inr w)) (by rw [← Array.getElem?_toList]; exact e1) (jTg_eq q4) hk
      · cases h
    · cases h
  | lookupswitch dflt ps =>
    simp only [jexe] at h
    split at h
    · rename_i x st0
      split at h
      · rename_i q
        obtain ⟨⟨q1, q2⟩, q3⟩ := q
        cases h
        have hk := K rfl ls (jnow_st N (jvs_tl hvs))
        obtain ⟨e1, e2⟩ := jlk_eq (pc := pc) (x := x) (dflt := dflt) ps.toList
        rw [e1] at hk
        have q4 : 0 ≤ (pc : Int) + Op.lookupswitch.offset ps.toList dflt x.toInt := by
          rcases e2 with e2 | ⟨w, hw, e2⟩
          · rw [e2]; exact q1
          · rw [e2]
            exact of_decide_eq_true (List.all_eq_true.mp q2 w hw)
        exact lv_lookup hx hb hd q3 rfl (jTg_eq q4) hk
      · cases h
    · cases h
  | _ => exact absurd hI (by simp [jNum])
end JSIM
end
section
/-! words of the JDK members that are stepped over at once; which fields are final; the array classes -/
theorem jw_nat : Cond.native arraycopyName ∈ jTs := jAt_mem (i := 581) (by decide +kernel)
theorem jw_cst : Cond.static arraycopyName ∈ jTs := jAt_mem (i := 580) (by decide +kernel)
theorem jw_sys : Cond.initialized "java/lang/System" ∈ jTs := jAt_mem (i := 80) (by decide +kernel)
theorem jw_maxS : Cond.static Lib.Math.max.name ∈ jTs := jAt_mem (i := 691) (by decide +kernel)
set_option maxRecDepth 100000 in
theorem jw_maxC : Cond.code Lib.Math.max.name Lib.Math.max.code 2 (some .int) ∈ jTs := List.mem_filter.mpr ⟨List.mem_of_getElem? (i := 692) rfl, rfl⟩
theorem jw_minS : Cond.static Lib.Math.min.name ∈ jTs := jAt_mem (i := 577) (by decide +kernel)
set_option maxRecDepth 100000 in
theorem jw_minC : Cond.code Lib.Math.min.name Lib.Math.min.code 2 (some .int) ∈ jTs := List.mem_filter.mpr ⟨List.mem_of_getElem? (i := 578) rfl, rfl⟩
theorem jw_math : Cond.initialized "java/lang/Math" ∈ jTs := jAt_mem (i := 79) (by decide +kernel)
theorem jw_oinst : Cond.instanceMethod objectInit ∈ jTs := jAt_mem (i := 89) (by decide +kernel)
set_option maxRecDepth 100000 in
theorem jw_ocode : Cond.code objectInit ⟨#[0xb1]⟩ 1 none ∈ jTs := List.mem_filter.mpr ⟨List.mem_of_getElem? (i := 90) rfl, rfl⟩
theorem jw_Aint : Cond.arrayClass .int ∈ jTs := jAt_mem (i := 107) (by decide +kernel)
theorem jw_Aboolean : Cond.arrayClass .boolean ∈ jTs := jAt_mem (i := 1144) (by decide +kernel)
theorem jw_Abyte : Cond.arrayClass .byte ∈ jTs := jAt_mem (i := 616) (by decide +kernel)
def jFinOk (k s : Nat) : Bool := if (jIsRefT.getD k []).getD s false then ((jT k s).2.2.2 && ((jT k s).1 == jC k)) && (match jTy k s with
    | .object _ => true
    | .array _ => true
    | _ => false) else (!(jT k s).2.2.2) && (decide (jTy k s = .int) || (decide (jTy k s = .boolean) && (k == 11 && s == 14)))
theorem jFin_all : ((List.range 12).all fun k => (List.range (jN k)).all fun s => jFinOk k s) = true := by decide +kernel
theorem jfin_num {k s : Nat} (hk : k < 12) (hs : s < jN k) (h : (jIsRefT.getD k []).getD s false = false) : (jT k s).2.2.2 = false ∧ (jTy k s = .int ∨ (jTy k s = .boolean ∧ k = 11 ∧ s = 14)) := by
  have h1 := List.all_eq_true.mp (List.all_eq_true.mp jFin_all k (List.mem_range.mpr hk)) s (List.mem_range.mpr hs)
  unfold jFinOk at h1
  rw [if_neg (by rw [h]; decide)] at h1
  simp only [Bool.and_eq_true, Bool.or_eq_true, decide_eq_true_eq, beq_iff_eq, Bool.not_eq_true'] at h1
  exact h1
theorem jfin_ref {k s : Nat} (hk : k < 12) (hs : s < jN k) (h : (jIsRefT.getD k []).getD s false = true) (a : Nat) : (jT k s).2.2.2 = true ∧ (jT k s).1 = jC k ∧ narrow (jTy k s) (.ref a) = .ref a ∧ fits (jTy k s) (.ref a) = true := by
  have h1 := List.all_eq_true.mp (List.all_eq_true.mp jFin_all k (List.mem_range.mpr hk)) s (List.mem_range.mpr hs)
  unfold jFinOk at h1
  rw [if_pos h] at h1
  simp only [Bool.and_eq_true, beq_iff_eq] at h1
  refine ⟨h1.1.1, h1.1.2, ?_⟩
  have h2 := h1.2
  revert h2
  cases jTy k s <;> intro h2 <;> first | exact ⟨rfl, rfl⟩ | cases h2
end
section
/-! one instruction: fields and arrays -/
section JMEM
variable {p : Program} {l : Launch} {e : Env} {R : Room} {s : State} {m : MethodId} {args : Array Value} {below : List Frame} {meth : Method} {c : Code} {Q : State → Prop}
variable {g : jR → Nat} {b base : Nat} {dC : Nat → ClassId} {dI : Nat → Nat → Nat} {cA : Nat → ClassId}
theorem jPd_eq (P : List (jR × Nat)) (r : jR) (k : Nat) : jPd P r k = P.contains (r, k) := by
  cases P <;> rfl
theorem jfs_up {σ : jS} {k i : Nat} {a : jA} {x : Int32} (hi : i < jN k) (hr : (jIsRefT.getD k []).getD i false = false) : jfs g (σ.1, (σ.2.1, jUp σ.2.2 k a i x)) k a = (jfs g σ k a).set i (.int x) := by
  apply List.ext_getElem?
  intro j
  by_cases hj : j < jN k
  · by_cases e : i = j
    · subst e
      rw [List.getElem?_set_self (by rw [jfs_len]; exact hi), jfs_at hi]
      simp only [hr, jUp]
      simp
    · rw [List.getElem?_set_ne e, jfs_at hj, jfs_at hj]
      have e2 : ¬ j = i := fun z => e z.symm
      simp [jUp, e2]
  · rw [List.getElem?_eq_none (by rw [jfs_len]; omega), List.getElem?_eq_none (by rw [List.length_set, jfs_len]; omega)]
theorem jEn_up {σ : jS} {k i : Nat} {a : jA} {x : Int32} {r' : jR} (h : r' ≠ (k, a)) : jEn g cA (σ.1, (σ.2.1, jUp σ.2.2 k a i x)) r' = jEn g cA σ r' := by
  have key : ∀ j, jUp σ.2.2 k a i x r'.1 r'.2 j = σ.2.2 r'.1 r'.2 j := by
    intro j
    unfold jUp
    rw [if_neg]
    rintro ⟨h1, h2, -⟩
    exact h (Prod.ext h1 h2)
  have e : jfs g (σ.1, (σ.2.1, jUp σ.2.2 k a i x)) r'.1 r'.2 = jfs g σ r'.1 r'.2 := by
    unfold jfs
    simp only [key]
  unfold jEn
  rw [e]
  simp only [key]
theorem jRel_at {σ : jS} {H : Heap} {r : jR} {k : Nat} (hG : jGd g b base) (h : jRel g b base dC dI cA σ s H) (hr : jok σ.1 r) (hk : r.1 = k) (h17 : k < 17) : ∃ j, j < σ.1 ∧ jRefs[j]? = some r ∧ g r = base + j ∧ (jWs g base cA σ)[j]? = some (base + j, jEn g cA σ r) := by
  obtain ⟨j, h1, h2⟩ := jok_get hr (by omega)
  exact ⟨j, h1, h2, hG.1 j r h2, jWs_get h1 h2⟩
theorem jX_keep {L : Nat} {xs : Nat → Int32} {H H1 : Heap} {locs locs1 : List Loc} (hG : jGd g b base) (hb : base ≤ s.heap.size) (h : jXs g b base L xs s H) (h1 : va_S (fun q => base ≤ q) s.heap H locs) (h2 : va_S (fun q => base ≤ q) s.heap H1 locs1) : jXs g b base L xs s H1 := by
  have key : ∀ a : Nat, ¬ base ≤ a → H1[a]? = H[a]? := fun a ha => by
    rw [h2.2.1 a (by omega) ha, h1.2.1 a (by omega) ha]
  exact ⟨h.1.kept (key b (Nat.not_le.mpr hG.2.2)), jXt_kept h.2 (fun a _ ha => key a ha)⟩
theorem jRel_up {σ : jS} {H H1 : Heap} {locs locs1 : List Loc} {k i : Nat} {a : jA} {x : Int32} (hG : jGd g b base) (hb : base ≤ s.heap.size) (hk : k ≠ 17) (h : jRel g b base dC dI cA σ s H) (h1 : va_S (fun q => base ≤ q) s.heap H locs) (h2 : va_S (fun q => base ≤ q) s.heap H1 locs1)
    (hP : va_P (dC, dI) jCl (jWs g base cA (σ.1, (σ.2.1, jUp σ.2.2 k a i x))) H1) : jRel g b base dC dI cA (σ.1, (σ.2.1, jUp σ.2.2 k a i x)) s H1 := by
  have e : ∀ a' j, jUp σ.2.2 k a i x 17 a' j = σ.2.2 17 a' j := fun a' j => by
    unfold jUp
    rw [if_neg (fun z => hk z.1.symm)]
  obtain ⟨g1, g2, g3, g4, g5, g6, g7⟩ := h
  refine ⟨g1, hP, g3, g4, ?_, ?_, g7⟩
  · have e1 : (jUp σ.2.2 k a i x) 17 (0, 0) = σ.2.2 17 (0, 0) := funext fun j => e _ j
    show jXs g b base (jUp σ.2.2 k a i x 17 (0, 1) 0).toNatClampNeg (jUp σ.2.2 k a i x 17 (0, 0)) s H1
    rw [e, e1]
    exact jX_keep hG hb g5 h1 h2
  · show Int32.ofNat (jUp σ.2.2 k a i x 17 (0, 1) 0).toNatClampNeg = jUp σ.2.2 k a i x 17 (0, 1) 0
    rw [e]
    exact g6
theorem jin_of {i : Int32} {n : Nat} (h : 0 ≤ i) (h2 : i.toNatClampNeg < n) : vp_in i n := by
  rintro (z | z)
  · exact absurd h (Int32.not_le.mpr z)
  · omega
theorem jnb {x : Int32} (h : x = 0 ∨ x = 1) : narrow .boolean (.int x) = .int x ∧ fits .boolean (.int x) = true ∧ vp_nar .boolean x = x := by
  rcases h with rfl | rfl <;> exact ⟨by decide, by decide, by decide⟩
/-- behind a write of a number: the world -/
theorem jnow_up {σ : jS} {H H1 : Heap} {locs locs1 : List Loc} {k i j mm : Nat} {a : jA} {x : Int32} {al : jL} {st st' : List jV} {ls : Array Slot} {w : va_E} (hG : jGd g b base) (hb : base ≤ s.heap.size) (hk : k ≠ 17) (hj : j < σ.1) (hr : jRefs[j]? = some (k, a))
    (N : jNow g b base dC dI cA s mm al st σ ls H locs) (h2 : va_S (fun q => base ≤ q) s.heap H1 locs1) (hw : jEn g cA (σ.1, (σ.2.1, jUp σ.2.2 k a i x)) (k, a) = w) (hP : va_P (dC, dI) jCl ((jWs g base cA σ).set j (base + j, w)) H1) (hst : jvs σ.1 st') :
    jNow g b base dC dI cA s mm al st' (σ.1, (σ.2.1, jUp σ.2.2 k a i x)) ls H1 locs1 := by
  obtain ⟨n1, n2, n3, n4, n5⟩ := N
  refine ⟨jRel_up hG hb hk n1 n5 h2 ?_, n2, n3, hst, h2⟩
  have e := jWs_set (g := g) (base := base) (cA := cA) (σ := σ) (σ' := (σ.1, (σ.2.1, jUp σ.2.2 k a i x))) rfl hj hr n1.1 (fun r' h => jEn_up h)
  rw [e, hw]
  exact hP
def jMem : Instr → Bool
  | .getfield _ | .putfield _ | .iaload | .baload | .iastore | .bastore | .aaload | .aastore | .arraylength => true
  | _ => false
theorem jtys_at (cA : Nat → ClassId) : (jtys cA)[0]? = some (cA 12, .int) ∧ (jtys cA)[1]? = some (cA 13, .boolean) ∧ (jtys cA)[2]? = some (cA 14, .byte) ∧ (jtys cA)[3]? = some (cA 15, .object "PlayedLaws$House") ∧ (jtys cA)[4]? = some (cA 16, .object "PlayedLaws$Night") := ⟨rfl, rfl, rfl, rfl, rfl⟩
set_option maxHeartbeats 8000000 in
set_option maxRecDepth 20000 in
theorem jsim_mem {cells slots mm pc n : Nat} {al al' : jL} {st st' : List jV} {σ σ' : jS} {pc' : Nat} {I : Instr} {ls : Array Slot} {H : Heap} {locs : List Loc} (hI : jMem I = true)
    (C0 : jStat p R s m args meth c base mm) (hG : jGd g b base) (hF : jF mm pc = some (I, n)) (h : jexe mm pc n al st σ I = some (.inl (pc', (al', (st', σ'))))) (N : jNow g b base dC dI cA s mm al st σ ls H locs)
    (K : σ'.1 = σ.1 → ∀ (H1 : Heap) (locs1 : List Loc), jNow g b base dC dI cA s mm al' st' σ' ls H1 locs1 → W p l e R s m args below meth c H1 locs1 cells slots Q (F0 m pc' ls (st'.map (jcv g)))) :
    W p l e R s m args below meth c H locs cells slots Q (F0 m pc ls (st.map (jcv g))) := by
  obtain ⟨hx, hb, hml, hown, hts, hlk, hin, hbs, hfr, hlo⟩ := C0
  have hd := jF_dec hF
  have hn := jF_ln hF
  obtain ⟨hR, hl, hva, hvs, hS⟩ := id N
  obtain ⟨h512, hP, hK, hC, hX, hL, hcl⟩ := id hR
  have hD := jWs_D (g := g) (base := base) (cA := cA) h512
  cases I with
  | getfield i =>
    simp only [jln] at hn
    obtain rfl : n = 3 := by omega
    simp only [jexe] at h
    split at h
    · rename_i k t q
      obtain ⟨hk, ht, hlink⟩ := jfld q
      split at h
      · rename_i r st0
        split at h
        · rename_i hrk
          obtain ⟨j, j1, j2, j3, j4⟩ := jRel_at hG hR (hvs _ List.mem_cons_self) hrk (by omega)
          rw [jEn_obj (by omega), hrk] at j4
          have hv := jfs_at (g := g) (σ := σ) (k := k) (s := t) (a := r.2) ht
          have go : ∀ v : jV, (jfs g σ k r.2)[t]? = some (jcv g v) → jokv σ.1 v → al' = al → pc' = pc + 3 → st' = v :: st0 → σ' = σ → W p l e R s m args below meth c H locs cells slots Q (F0 m pc ls ((.inr (.inr (some r)) :: st0 : List jV).map (jcv g))) := by
            intro v hv hov e1 e2 e3 e4
            subst e1; subst e2; subst e3; subst e4
            have kk := K rfl H locs (jnow_st N (jvs_cons hov (jvs_tl hvs)))
            show W p l e R s m args below meth c H locs cells slots Q (F0 m pc ls (.ref (g r) :: st0.map (jcv g)))
            rw [j3]
            rcases hlink with hlink | hlink
            · exact va_get (D := (dC, dI)) (ci := k) hx hb hts (juws hk) hown hK hP j j4 (jcl_at k hk) t ht (hts _ hlink) (fun _ z => z) hv hd kk
            · exact va_getN (D := (dC, dI)) (ci := k) hx hb hts (juws hk) hown hK hP j j4 (jcl_at k hk) t ht (va_Nw.use rfl (hC.1 _ hlink)) (fun _ z => z) hv hd kk
          split at h
          · rename_i hir
            split at h
            · cases h
            · rename_i hpd
              rw [jPd_eq] at hpd
              have hpd : σ.2.1.contains ((k, r.2), t) = false := by simpa using hpd
              cases h
              refine go (jRf (jrf k r.2 t)) ?_ ?_ rfl rfl rfl rfl
              · rw [hv, if_pos hir, hpd]
                rfl
              · have := hcl (k, r.2) t (by rw [← hrk]; exact hvs _ List.mem_cons_self) (Or.inl ⟨hk, hir⟩) (fun z => by
                  rw [← List.contains_iff_mem, hpd] at z
                  cases z)
                exact this
          · rename_i hir
            cases h
            refine go (jI (σ.2.2 k r.2 t)) ?_ trivial rfl rfl rfl rfl
            rw [hv, if_neg hir]
            rfl
        · cases h
      · cases h
    · cases h
  | putfield i =>
    simp only [jln] at hn
    obtain rfl : n = 3 := by omega
    simp only [jexe] at h
    split at h
    · rename_i k t q
      obtain ⟨hk, ht, hlink⟩ := jfld q
      split at h
      · rename_i x r st0
        split at h
        · rename_i hc
          obtain ⟨hrk, hir, hbo⟩ := hc
          obtain ⟨j, j1, j2, j3, j4⟩ := jRel_at hG hR (hvs _ (List.mem_cons_of_mem _ List.mem_cons_self)) hrk (by omega)
          rw [jEn_obj (by omega), hrk] at j4
          have j2' : jRefs[j]? = some (k, r.2) := by rw [← hrk]; exact j2
          obtain ⟨f1, f2⟩ := jfin_num hk ht hir
          have f3 : narrow (jTy k t) (.int x) = .int x ∧ fits (jTy k t) (.int x) = true := by
            rcases f2 with f2 | ⟨f2, f4, f5⟩
            · rw [f2]; exact ⟨rfl, rfl⟩
            · rw [f2]
              have := jnb (hbo ⟨f4, f5⟩)
              exact ⟨this.1, this.2.1⟩
          cases h
          show W p l e R s m args below meth c H locs cells slots Q (F0 m pc ls (.int x :: .ref (g r) :: st'.map (jcv g)))
          rw [j3]
          have kk : ∀ (H1 : Heap) (locs1 : List Loc), va_P (dC, dI) jCl ((jWs g base cA σ).set j (base + j, .inr (k, (jfs g σ k r.2).set t (.int x)))) H1 → va_D (fun q => base ≤ q) ((jWs g base cA σ).set j (base + j, .inr (k, (jfs g σ k r.2).set t (.int x)))) → va_S (fun q => base ≤ q) s.heap H1 locs1 → W p l e R s m args below meth c H1 locs1 cells slots Q (F0 m (pc + 3) ls (st'.map (jcv g))) :=
            fun H1 locs1 hP1 _ hS1 => K rfl H1 locs1 (jnow_up hG hbs (by omega) j1 j2' N hS1 (by rw [jEn_obj (by exact hk), jfs_up ht hir]) hP1 (jvs_tl (jvs_tl hvs)))
          rcases hlink with hlink | hlink
          · exact va_put (D := (dC, dI)) (ci := k) hx hb hts (juws hk) (jTy k) (jty_ok k hk) (jnm_ok k hk) hown hK hP hD hS j j4 (jcl_at k hk) t ht (hts _ hlink) (fun _ z => z) f1 (jty_ok k hk t ht) f3.1 f3.2 (by rw [jfs_len]; exact ht) hd kk
          · exact va_putN (D := (dC, dI)) (ci := k) hx hb hts (juws hk) (jTy k) (jty_ok k hk) (jnm_ok k hk) hown hK hP hD hS j j4 (jcl_at k hk) t ht (va_Nw.use rfl (hC.1 _ hlink)) (fun _ z => z) f1 (jty_ok k hk t ht) f3.1 f3.2 (by rw [jfs_len]; exact ht) hd kk
        · cases h
      · rename_i v r st0
        split at h
        · rename_i hc
          obtain ⟨⟨hrk, hir, hii, hio⟩, hvr, hct, her⟩ := hc
          subst hio
          obtain ⟨j, j1, j2, j3, j4⟩ := jRel_at hG hR (hvs _ (List.mem_cons_of_mem _ List.mem_cons_self)) hrk (by omega)
          rw [jEn_obj (by omega), hrk] at j4
          have j2' : jRefs[j]? = some ((jOwn mm), r.2) := by rw [← hrk]; exact j2
          obtain ⟨f1, f2, f3, f4⟩ := jfin_ref hk ht hir (g v)
          cases h
          show W p l e R s m args below meth c H locs cells slots Q (F0 m pc ls (.ref (g v) :: .ref (g r) :: st'.map (jcv g)))
          rw [j3]
          have hlink' := hts _ (jfld_own q)
          refine va_putF (D := (dC, dI)) (ci := (jOwn mm)) hx hb hts (juws hk) (jTy (jOwn mm)) (jty_ok (jOwn mm) hk) (jnm_ok (jOwn mm) hk) hown hK hP hD hS j j4 (jcl_at (jOwn mm) hk) t ht hlink' (fun _ z => z) f1 (hin hii) f2 (jty_ok (jOwn mm) hk t ht) f3 f4 (by rw [jfs_len]; exact ht) hd (fun H1 locs1 hP1 _ hS1 => K rfl H1 locs1 ?_)
          obtain ⟨n1, n2, n3, n4, n5⟩ := N
          refine ⟨⟨h512, ?_, hK, hC, jX_keep hG hbs hX hS hS1, hL, ?_⟩, n2, n3, jvs_tl (jvs_tl hvs), hS1⟩
          · have hne : ∀ q : jR × Nat, q ≠ (((jOwn mm), r.2), t) → (σ.2.1.erase (((jOwn mm), r.2), t)).contains q = σ.2.1.contains q := fun q hq => by
              rw [Bool.eq_iff_iff, List.contains_iff_mem, List.contains_iff_mem, List.mem_erase_of_ne hq]
            rw [jWs_set (g := g) (base := base) (cA := cA) (σ := σ) (σ' := (σ.1, (σ.2.1.erase (((jOwn mm), r.2), t), σ.2.2))) (r := ((jOwn mm), r.2)) rfl j1 j2' h512 (fun r' hr' => ?_)]
            · rw [jEn_obj (by exact hk)]
              have e1 : jfs g (σ.1, (σ.2.1.erase (((jOwn mm), r.2), t), σ.2.2)) (jOwn mm) r.2 = (jfs g σ (jOwn mm) r.2).set t (.ref (g v)) := by
                apply List.ext_getElem?
                intro u
                by_cases hu : u < jN (jOwn mm)
                · by_cases e : t = u
                  · subst e
                    rw [List.getElem?_set_self (by rw [jfs_len]; exact hu), jfs_at hu, if_pos hir]
                    simp only [her, hvr]
                    rfl
                  · rw [List.getElem?_set_ne e, jfs_at hu, jfs_at hu]
                    have := hne (((jOwn mm), r.2), u) (fun z => e (Prod.mk.inj z).2.symm)
                    simp only [this]
                · rw [List.getElem?_eq_none (by rw [jfs_len]; omega), List.getElem?_eq_none (by rw [List.length_set, jfs_len]; omega)]
              show va_P (dC, dI) jCl ((jWs g base cA σ).set j (base + j, .inr ((jOwn mm), jfs g (σ.1, (σ.2.1.erase (((jOwn mm), r.2), t), σ.2.2)) (jOwn mm) r.2))) H1
              rw [e1]
              exact hP1
            · have e2 : ∀ u, (σ.2.1.erase (((jOwn mm), r.2), t)).contains (r', u) = σ.2.1.contains (r', u) := fun u => hne (r', u) (fun z => hr' (Prod.mk.inj z).1)
              have e3 : jfs g (σ.1, (σ.2.1.erase (((jOwn mm), r.2), t), σ.2.2)) r'.1 r'.2 = jfs g σ r'.1 r'.2 := by
                unfold jfs
                simp only [show ∀ u, (σ.2.1.erase (((jOwn mm), r.2), t)).contains ((r'.1, r'.2), u) = σ.2.1.contains ((r'.1, r'.2), u) from e2]
              unfold jEn
              rw [e3]
              simp only [e2]
          · intro r' u ho hp hm
            by_cases e : (r', u) = (((jOwn mm), r.2), t)
            · obtain ⟨e1, e2⟩ := Prod.mk.inj e
              subst e1; subst e2
              show jok σ.1 (jrf (jOwn mm) r.2 u)
              rw [← hvr]
              exact hvs _ List.mem_cons_self
            · exact hcl r' u ho hp (fun z => hm ((List.mem_erase_of_ne e).mpr z))
        · cases h
      · cases h
    · cases h
  | iaload =>
    simp only [jln] at hn
    obtain rfl : n = 1 := by omega
    simp only [jexe] at h
    split at h
    · rename_i i r st0
      split at h
      · rename_i hrk
        split at h
        · rename_i q
          obtain ⟨j, j1, j2, j3, j4⟩ := jRel_at hG hR (hvs _ (List.mem_cons_of_mem _ List.mem_cons_self)) hrk (by omega)
          rw [jEn_ints (Or.inl hrk), hrk] at j4
          cases h
          show W p l e R s m args below meth c H locs cells slots Q (F0 m pc ls (.int i :: .ref (g r) :: st0.map (jcv g)))
          rw [j3]
          exact va_iald hx hb hK hP j 0 j4 (jtys_at cA).1 (jin_of q.1 q.2) hd (K rfl H locs (jnow_st N (jvs_cons trivial (jvs_tl (jvs_tl hvs)))))
        · cases h
      · split at h
        · rename_i hr
          subst hr
          split at h
          · rename_i q
            cases h
            show W p l e R s m args below meth c H locs cells slots Q (F0 m pc ls (.int i :: .ref (g (17, (0, 0))) :: st0.map (jcv g)))
            rw [hG.2.1]
            obtain ⟨scr, h1, h2, h3, h4, h5⟩ := hX.1
            exact W.iald (v := .int (σ.2.2 17 (0, 0) i.toNatClampNeg)) hx hb h1 h2 h3 (by rw [h4]; exact jin_of q.1 q.2) (h5 _ q.2) rfl rfl hd (K rfl H locs (jnow_st N (jvs_cons trivial (jvs_tl (jvs_tl hvs)))))
          · cases h
        · cases h
    · cases h
  | baload =>
    simp only [jln] at hn
    obtain rfl : n = 1 := by omega
    simp only [jexe] at h
    split at h
    · rename_i i r st0
      split at h
      · rename_i q
        obtain ⟨hrk, q⟩ := q
        obtain ⟨j, j1, j2, j3, j4⟩ := jRel_at hG hR (hvs _ (List.mem_cons_of_mem _ List.mem_cons_self)) rfl (by omega)
        rw [jEn_ints (Or.inr hrk)] at j4
        cases h
        have kk := K rfl H locs (jnow_st N (jvs_cons trivial (jvs_tl (jvs_tl hvs))))
        show W p l e R s m args below meth c H locs cells slots Q (F0 m pc ls (.int i :: .ref (g r) :: st0.map (jcv g)))
        rw [j3]
        rcases hrk with hrk | hrk
        · rw [hrk] at j4 q kk
          exact va_zald hx hb hK hP j 1 j4 (jtys_at cA).2.1 (jin_of q.1 q.2) hd kk
        · rw [hrk] at j4 q kk
          exact va_bald hx hb hK hP j 2 j4 (jtys_at cA).2.2.1 (jin_of q.1 q.2) hd kk
      · cases h
    · cases h
  | iastore =>
    simp only [jln] at hn
    obtain rfl : n = 1 := by omega
    simp only [jexe] at h
    split at h
    · rename_i x i r st0
      split at h
      · rename_i q
        obtain ⟨hrk, q⟩ := q
        obtain ⟨j, j1, j2, j3, j4⟩ := jRel_at hG hR (hvs _ (List.mem_cons_of_mem _ (List.mem_cons_of_mem _ List.mem_cons_self))) hrk (by omega)
        have j2' : jRefs[j]? = some (12, r.2) := by rw [← hrk]; exact j2
        rw [jEn_ints (Or.inl hrk), hrk] at j4
        cases h
        show W p l e R s m args below meth c H locs cells slots Q (F0 m pc ls (.int x :: .int i :: .ref (g r) :: st'.map (jcv g)))
        rw [j3]
        refine va_iast hx hb hK hP hD hS j 0 j4 (jtys_at cA).1 (jin_of q.1 q.2) hd (fun H1 locs1 hP1 _ hS1 => K rfl H1 locs1 (jnow_up hG hbs (by omega) j1 j2' N hS1 ?_ hP1 (jvs_tl (jvs_tl (jvs_tl hvs)))))
        rw [jEn_ints (Or.inl rfl)]
        congr 4
        funext u
        by_cases hu : u = i.toNatClampNeg <;> simp [jUp, upd, hu]
      · cases h
    · cases h
  | bastore =>
    simp only [jln] at hn
    obtain rfl : n = 1 := by omega
    simp only [jexe] at h
    split at h
    · rename_i x i r st0
      split at h
      · rename_i q
        obtain ⟨hrk, q⟩ := q
        cases h
        rcases hrk with ⟨hrk, hx01⟩ | ⟨hrk, hx8⟩
        · obtain ⟨j, j1, j2, j3, j4⟩ := jRel_at hG hR (hvs _ (List.mem_cons_of_mem _ (List.mem_cons_of_mem _ List.mem_cons_self))) hrk (by omega)
          have j2' : jRefs[j]? = some (13, r.2) := by rw [← hrk]; exact j2
          rw [jEn_ints (Or.inr (Or.inl hrk)), hrk] at j4
          rw [hrk] at q K
          show W p l e R s m args below meth c H locs cells slots Q (F0 m pc ls (.int x :: .int i :: .ref (g r) :: st'.map (jcv g)))
          rw [j3]
          refine va_zast hx hb hK hP hD hS j 1 j4 (jtys_at cA).2.1 (jin_of q.1 q.2) hd (fun H1 locs1 hP1 _ hS1 => K rfl H1 locs1 (jnow_up hG hbs (by omega) j1 j2' N hS1 ?_ hP1 (jvs_tl (jvs_tl (jvs_tl hvs)))))
          rw [jEn_ints (Or.inr (Or.inl rfl)), (jnb hx01).2.2]
          congr 4
          funext u
          by_cases hu : u = i.toNatClampNeg <;> simp [jUp, upd, hu]
        · obtain ⟨j, j1, j2, j3, j4⟩ := jRel_at hG hR (hvs _ (List.mem_cons_of_mem _ (List.mem_cons_of_mem _ List.mem_cons_self))) hrk (by omega)
          have j2' : jRefs[j]? = some (14, r.2) := by rw [← hrk]; exact j2
          rw [jEn_ints (Or.inr (Or.inr hrk)), hrk] at j4
          rw [hrk] at q K
          show W p l e R s m args below meth c H locs cells slots Q (F0 m pc ls (.int x :: .int i :: .ref (g r) :: st'.map (jcv g)))
          rw [j3]
          refine va_bast hx hb hK hP hD hS j 2 j4 (jtys_at cA).2.2.1 (jin_of q.1 q.2) hd (fun H1 locs1 hP1 _ hS1 => K rfl H1 locs1 (jnow_up hG hbs (by omega) j1 j2' N hS1 ?_ hP1 (jvs_tl (jvs_tl (jvs_tl hvs)))))
          rw [jEn_ints (Or.inr (Or.inr rfl)), show vp_nar .byte x = x from (show vp_nar .byte x = x.toInt8.toInt32 from rfl).trans hx8]
          congr 4
          funext u
          by_cases hu : u = i.toNatClampNeg <;> simp [jUp, upd, hu]
      · cases h
    · cases h
  | aaload =>
    simp only [jln] at hn
    obtain rfl : n = 1 := by omega
    simp only [jexe] at h
    split at h
    · rename_i i r st0
      split at h
      · rename_i q
        obtain ⟨hrk, q⟩ := q
        split at h
        · cases h
        · rename_i hpd
          rw [jPd_eq] at hpd
          have hpd : σ.2.1.contains (r, i.toNatClampNeg) = false := by simpa using hpd
          have hro := hvs _ (List.mem_cons_of_mem _ List.mem_cons_self)
          obtain ⟨j, j1, j2, j3, j4⟩ := jRel_at hG hR hro rfl (by omega)
          rw [jEn_refs hrk] at j4
          cases h
          have kk := K rfl H locs (jnow_st N (jvs_cons (show jok σ.1 (jrf r.1 r.2 i.toNatClampNeg) from hcl r _ hro (Or.inr ⟨hrk, q.2⟩) (fun z => by
            rw [← List.contains_iff_mem, hpd] at z
            cases z)) (jvs_tl (jvs_tl hvs))))
          show W p l e R s m args below meth c H locs cells slots Q (F0 m pc ls (.int i :: .ref (g r) :: st0.map (jcv g)))
          rw [j3]
          have e1 : va_rf ((fun u => if σ.2.1.contains (r, u) then none else some (g (jrf r.1 r.2 u))) i.toNatClampNeg) = .ref (g (jrf r.1 r.2 i.toNatClampNeg)) := by
            simp only [hpd]
            rfl
          rcases hrk with hrk | hrk
          · have ht : (jtys cA)[3]? = some (cA r.1, .object "PlayedLaws$House") := by rw [hrk]; rfl
            exact va_aldq hx hb hK hP j 3 j4 ht (jin_of q.1 q.2) hd (by rw [e1]; exact kk)
          · have ht : (jtys cA)[4]? = some (cA r.1, .object "PlayedLaws$Night") := by rw [hrk]; rfl
            exact va_aldq hx hb hK hP j 4 j4 ht (jin_of q.1 q.2) hd (by rw [e1]; exact kk)
      · cases h
    · cases h
  | aastore =>
    simp only [jln] at hn
    obtain rfl : n = 1 := by omega
    simp only [jexe] at h
    split at h
    · rename_i v i r st0
      split at h
      · rename_i q
        obtain ⟨⟨hrk, q⟩, hvr, hct, her⟩ := q
        obtain ⟨j, j1, j2, j3, j4⟩ := jRel_at hG hR (hvs _ (List.mem_cons_of_mem _ (List.mem_cons_of_mem _ List.mem_cons_self))) rfl (by omega)
        rw [jEn_refs hrk] at j4
        have hvo : jok σ.1 v := hvs _ List.mem_cons_self
        have hv1 : v.1 = 1 ∨ v.1 = 4 := by
          rw [hvr]
          rcases hrk with hrk | hrk <;> rw [hrk]
          · exact Or.inl rfl
          · exact Or.inr rfl
        obtain ⟨jv', k1, k2, k3, k4⟩ := jRel_at hG hR hvo rfl (by omega)
        rw [jEn_obj (by omega)] at k4
        cases h
        have kk : ∀ (H1 : Heap) (locs1 : List Loc), va_P (dC, dI) jCl ((jWs g base cA σ).set j (base + j, .inl (cA r.1, jLen r.1 r.2, .inr (.inr (.inr (.inr (va_up (fun u => if σ.2.1.contains (r, u) then none else some (g (jrf r.1 r.2 u))) i.toNatClampNeg (some (base + jv'))))))))) H1 → va_D (fun q => base ≤ q) ((jWs g base cA σ).set j (base + j, .inl (cA r.1, jLen r.1 r.2, .inr (.inr (.inr (.inr (va_up (fun u => if σ.2.1.contains (r, u) then none else some (g (jrf r.1 r.2 u))) i.toNatClampNeg (some (base + jv'))))))))) → va_S (fun q => base ≤ q) s.heap H1 locs1 → W p l e R s m args below meth c H1 locs1 cells slots Q (F0 m (pc + 1) ls (st'.map (jcv g))) := by
          intro H1 locs1 hP1 _ hS1
          refine K rfl H1 locs1 ?_
          obtain ⟨n1, n2, n3, n4, n5⟩ := N
          refine ⟨⟨h512, ?_, hK, hC, jX_keep hG hbs hX hS hS1, hL, ?_⟩, n2, n3, jvs_tl (jvs_tl (jvs_tl hvs)), hS1⟩
          · have hne : ∀ q : jR × Nat, q ≠ (r, i.toNatClampNeg) → (σ.2.1.erase (r, i.toNatClampNeg)).contains q = σ.2.1.contains q := fun q hq => by
              rw [Bool.eq_iff_iff, List.contains_iff_mem, List.contains_iff_mem, List.mem_erase_of_ne hq]
            rw [jWs_set (g := g) (base := base) (cA := cA) (σ := σ) (σ' := (σ.1, (σ.2.1.erase (r, i.toNatClampNeg), σ.2.2))) (r := r) rfl j1 j2 h512 (fun r' hr' => ?_)]
            · rw [jEn_refs hrk]
              have e1 : (fun u => if (σ.2.1.erase (r, i.toNatClampNeg)).contains (r, u) then none else some (g (jrf r.1 r.2 u))) = va_up (fun u => if σ.2.1.contains (r, u) then none else some (g (jrf r.1 r.2 u))) i.toNatClampNeg (some (base + jv')) := by
                funext u
                by_cases hu : u = i.toNatClampNeg
                · subst hu
                  simp only [her, va_up, if_pos, ← hvr, k3]
                  simp
                · simp only [hne (r, u) (fun z => hu (Prod.mk.inj z).2), va_up, if_neg hu]
              show va_P (dC, dI) jCl ((jWs g base cA σ).set j (base + j, .inl (cA r.1, (jLen r.1 r.2, .inr (.inr (.inr (.inr (fun u => if (σ.2.1.erase (r, i.toNatClampNeg)).contains (r, u) then none else some (g (jrf r.1 r.2 u)))))))))) H1
              rw [e1]
              exact hP1
            · have e2 : ∀ u, (σ.2.1.erase (r, i.toNatClampNeg)).contains (r', u) = σ.2.1.contains (r', u) := fun u => hne (r', u) (fun z => hr' (Prod.mk.inj z).1)
              have e3 : jfs g (σ.1, (σ.2.1.erase (r, i.toNatClampNeg), σ.2.2)) r'.1 r'.2 = jfs g σ r'.1 r'.2 := by
                unfold jfs
                simp only [show ∀ u, (σ.2.1.erase (r, i.toNatClampNeg)).contains ((r'.1, r'.2), u) = σ.2.1.contains ((r'.1, r'.2), u) from e2]
              unfold jEn
              rw [e3]
              simp only [e2]
          · intro r' u ho hp hm
            by_cases e : (r', u) = (r, i.toNatClampNeg)
            · obtain ⟨e1, e2⟩ := Prod.mk.inj e
              subst e1; subst e2
              show jok σ.1 (jrf r'.1 r'.2 i.toNatClampNeg)
              rw [← hvr]
              exact hvo
            · exact hcl r' u ho hp (fun z => hm ((List.mem_erase_of_ne e).mpr z))
        show W p l e R s m args below meth c H locs cells slots Q (F0 m pc ls (.ref (g v) :: .int i :: .ref (g r) :: st'.map (jcv g)))
        rw [j3, k3]
        rcases hrk with hrk | hrk
        · have ht : (jtys cA)[3]? = some (cA r.1, .object "PlayedLaws$House") := by rw [hrk]; rfl
          have hv2 : v.1 = 1 := by rw [hvr, hrk]; rfl
          rw [hv2] at k4
          exact va_astq (r := (jC 1, jT 1, jN 1)) hx hb hK hP hD hS j 3 jv' 1 j4 ht k4 (jcl_at 1 (by omega)) (jin_of q.1 q.2) hd kk
        · have ht : (jtys cA)[4]? = some (cA r.1, .object "PlayedLaws$Night") := by rw [hrk]; rfl
          have hv2 : v.1 = 4 := by rw [hvr, hrk]; rfl
          rw [hv2] at k4
          exact va_astq (r := (jC 4, jT 4, jN 4)) hx hb hK hP hD hS j 4 jv' 4 j4 ht k4 (jcl_at 4 (by omega)) (jin_of q.1 q.2) hd kk
      · cases h
    · cases h
  | arraylength =>
    simp only [jln] at hn
    obtain rfl : n = 1 := by omega
    simp only [jexe] at h
    split at h
    · rename_i r st0
      split at h
      · rename_i q
        obtain ⟨j, j1, j2, j3, j4⟩ := jRel_at hG hR (hvs _ List.mem_cons_self) rfl (by omega)
        cases h
        have kk := K rfl H locs (jnow_st N (jvs_cons trivial (jvs_tl hvs)))
        show W p l e R s m args below meth c H locs cells slots Q (F0 m pc ls (.ref (g r) :: st0.map (jcv g)))
        rw [j3]
        rcases (show r.1 = 12 ∨ r.1 = 13 ∨ r.1 = 14 ∨ r.1 = 15 ∨ r.1 = 16 by omega) with hrk | hrk | hrk | hrk | hrk
        · rw [jEn_ints (by omega)] at j4
          exact va_alen hx hb hK hP j 0 j4 (by rw [hrk]; rfl) rfl hd kk
        · rw [jEn_ints (by omega)] at j4
          exact va_alen hx hb hK hP j 1 j4 (by rw [hrk]; rfl) rfl hd kk
        · rw [jEn_ints (by omega)] at j4
          exact va_alen hx hb hK hP j 2 j4 (by rw [hrk]; rfl) rfl hd kk
        · rw [jEn_refs (by omega)] at j4
          exact va_alen hx hb hK hP j 3 j4 (by rw [hrk]; rfl) rfl hd kk
        · rw [jEn_refs (by omega)] at j4
          exact va_alen hx hb hK hP j 4 j4 (by rw [hrk]; rfl) rfl hd kk
      · split at h
        · rename_i hr
          subst hr
          cases h
          have kk := K rfl H locs (jnow_st N (jvs_cons trivial (jvs_tl hvs)))
          show W p l e R s m args below meth c H locs cells slots Q (F0 m pc ls (.ref (g (17, (0, 0))) :: st0.map (jcv g)))
          rw [hG.2.1]
          obtain ⟨scr, h1, h2, h3, h4, h5⟩ := hX.1
          exact W.alen (n := jSL σ.2.2) hx hb h1 h2 (by rw [h4]; exact hL) rfl rfl hd kk
        · cases h
    · cases h
  | _ => exact absurd hI (by simp [jMem])
end JMEM
end
section
/-! one instruction: new objects and arrays; the members that are stepped over at once -/
theorem arrV_congr {cI : ClassId} {n : Nat} {f f' : Nat → Value} (h : ∀ j, j < n → f j = f' j) : arrV cI n f = arrV cI n f' := by
  unfold arrV
  congr 1
  congr 1
  funext j
  exact h j.1 j.2
def jsize (r : jR) : Nat := if r.1 < 12 then jN r.1 else jLen r.1 r.2
def jsz (n : Nat) : Nat := ((jRefs.take n).map jsize).sum
theorem jsz_succ {n : Nat} {r : jR} (h : jRefs[n]? = some r) : jsz (n + 1) = jsz n + jsize r := by
  unfold jsz
  rw [List.take_add_one, h]
  simp
theorem jzero_at {M : jM} {k n j : Nat} {a : jA} (h : jzero M k a n = true) (hj : j < n) : M k a j = 0 := by
  have := List.all_eq_true.mp h j (List.mem_range.mpr hj)
  exact eq_of_beq this
theorem jisref_lt {k s : Nat} (hk : k < 12) (h : (jIsRefT.getD k []).getD s false = true) : s < jN k := by
  have h0 : ((List.range 12).all fun k => (jIsRefT.getD k []).length == jN k) = true := by decide +kernel
  have h1 := eq_of_beq (List.all_eq_true.mp h0 k (List.mem_range.mpr hk))
  rcases Nat.lt_or_ge s (jN k) with z | z
  · exact z
  · rw [List.getD_eq_getElem?_getD, List.getElem?_eq_none (by omega)] at h
    cases h
theorem jSlots_mem {k s : Nat} {a : jA} (hk : k < 12) (h : (jIsRefT.getD k []).getD s false = true) : ((k, a), s) ∈ jSlots k a := by
  unfold jSlots
  refine List.mem_map.mpr ⟨s, List.mem_filter.mpr ⟨List.mem_range.mpr (jisref_lt hk h), h⟩, rfl⟩
theorem jSlots_own {k : Nat} {a : jA} {q : jR × Nat} (h : q ∈ jSlots k a) : q.1 = (k, a) := by
  unfold jSlots at h
  obtain ⟨s, -, rfl⟩ := List.mem_map.mp h
  rfl
theorem jok_mono {n n' : Nat} {r : jR} (h : jok n r) (hn : n ≤ n') : jok n' r := by
  rcases h with ⟨j, h1, h2⟩ | h
  · exact Or.inl ⟨j, by omega, h2⟩
  · exact Or.inr h
theorem jokv_mono {n n' : Nat} {v : jV} (h : jokv n v) (hn : n ≤ n') : jokv n' v := by
  rcases v with x | x | _ | r
  · trivial
  · trivial
  · trivial
  · exact jok_mono h hn
theorem jok_succ {n : Nat} {r r' : jR} (hr : jRefs[n]? = some r) (h : jok (n + 1) r') : r' = r ∨ jok n r' := by
  rcases h with ⟨j, h1, h2⟩ | h
  · by_cases e : j = n
    · subst e
      exact Or.inl (Option.some.inj (h2.symm.trans hr))
    · exact Or.inr (Or.inl ⟨j, by omega, h2⟩)
  · exact Or.inr (Or.inr h)
section JNEW
variable {p : Program} {l : Launch} {e : Env} {R : Room} {s : State} {m : MethodId} {args : Array Value} {below : List Frame} {meth : Method} {c : Code} {Q : State → Prop}
variable {g : jR → Nat} {b base : Nat} {dC : Nat → ClassId} {dI : Nat → Nat → Nat} {cA : Nat → ClassId}
theorem jW_le {H : Heap} {locs : List Loc} {cells slots : Nat} {f : JFrame} (k : H.size ≤ s.heap.size + cells → W p l e R s m args below meth c H locs cells slots Q f) : W p l e R s m args below meth c H locs cells slots Q f := fun T hT X => k (by rw [← hT]; exact X.heapSize) T hT X
/-- the new cell's address -/
theorem jnew_q {σ : jS} {q cells : Nat} {w : va_E} {H1 : Heap} (h512 : σ.1 ≤ 512) (hP : va_P (dC, dI) jCl (jWs g base cA σ ++ [(q, w)]) H1) (hD : va_D (fun q => base ≤ q) (jWs g base cA σ ++ [(q, w)])) (hs : H1.size ≤ s.heap.size + (cells + 1)) (hc : s.heap.size + cells = base + σ.1) : q = base + σ.1 := by
  have e1 : (jWs g base cA σ ++ [(q, w)])[σ.1]? = some (q, w) := by
    rw [List.getElem?_append_right (by rw [jWs_len]; exact Nat.le_refl _), jWs_len]
    simp
  have h1 : q < H1.size := (hP _ _ e1).lt
  have h2 : base ≤ q := hD.2 _ _ e1
  rcases Nat.lt_or_ge q (base + σ.1) with z | z
  · exfalso
    obtain ⟨i, rfl⟩ : ∃ i, q = base + i := ⟨q - base, by omega⟩
    have hi : i < σ.1 := by omega
    have hl : i < jRefs.length := by rw [jRefs_len]; omega
    have e2 : (jWs g base cA σ ++ [(base + i, w)])[i]? = some (base + i, jEn g cA σ jRefs[i]) := by
      rw [List.getElem?_append_left (by rw [jWs_len]; exact hi)]
      exact jWs_get hi (List.getElem?_eq_getElem hl)
    have := hD.1 _ _ _ _ e1 e2 rfl
    omega
  · omega
theorem jfit_nm {ty : FieldType} {c1 c2 : ClassId} (h1 : va_RA s c1 ty) (h2 : va_RA s c2 ty) : c1 = c2 := by
  cases ty with
  | object C =>
    obtain ⟨_, _, _, _, _, h3⟩ := h1
    obtain ⟨_, _, _, _, _, h4⟩ := h2
    exact Option.some.inj (h3.symm.trans h4)
  | _ => exact Option.some.inj (Eq.trans (Eq.symm h1) h2)
/-- the world behind a making -/
theorem jnow_new {σ : jS} {P' : List (jR × Nat)} {H H1 : Heap} {locs locs1 : List Loc} {mm : Nat} {r : jR} {al : jL} {st st' : List jV} {ls : Array Slot} (hG : jGd g b base) (hb : base ≤ s.heap.size) (hr : jRefs[σ.1]? = some r)
    (N : jNow g b base dC dI cA s mm al st σ ls H locs) (h2 : va_S (fun q => base ≤ q) s.heap H1 locs1)
    (hP : va_P (dC, dI) jCl (jWs g base cA σ ++ [(base + σ.1, jEn g cA (σ.1 + 1, (P', σ.2.2)) r)]) H1) (ho : ∀ (r' : jR) (u : Nat), r' ≠ r → P'.contains (r', u) = σ.2.1.contains (r', u)) (hp : ∀ u, jPl r u → (r, u) ∈ P') (hst : jvs (σ.1 + 1) st') :
    jNow g b base dC dI cA s mm al st' (σ.1 + 1, (P', σ.2.2)) ls H1 locs1 := by
  obtain ⟨⟨h512, n1, hK, hC, hX, hL, hcl⟩, n2, n3, n4, n5⟩ := N
  have hl : σ.1 < 512 := by
    have := (List.getElem?_eq_some_iff.mp hr).1
    rw [jRefs_len] at this
    exact this
  refine ⟨⟨hl, ?_, hK, hC, jX_keep hG hb hX n5 h2, hL, ?_⟩, n2, fun i v h => jokv_mono (n3 i v h) (Nat.le_succ _), hst, h2⟩
  · rw [jWs_app (σ := σ) rfl hr (fun r' hr' => ?_)]
    · exact hP
    · have e3 : jfs g (σ.1 + 1, (P', σ.2.2)) r'.1 r'.2 = jfs g σ r'.1 r'.2 := by
        unfold jfs
        simp only [show ∀ u, P'.contains ((r'.1, r'.2), u) = σ.2.1.contains ((r'.1, r'.2), u) from fun u => ho r' u hr']
      unfold jEn
      rw [e3]
      simp only [fun u => ho r' u hr']
  · intro r' u h1 h3 h4
    rcases jok_succ hr h1 with rfl | h5
    · exact absurd (hp u h3) h4
    · by_cases e : r' = r
      · subst e
        exact absurd (hp u h3) h4
      · have h6 : (r', u) ∉ σ.2.1 := fun z => h4 (by
          rw [← List.contains_iff_mem, ho r' u e, List.contains_iff_mem]
          exact z)
        exact jok_mono (hcl r' u h5 h3 h6) (Nat.le_succ _)
def jNew : Instr → Bool
  | .new _ | .newarray _ | .anewarray _ => true
  | _ => false
theorem jdef_num {k s : Nat} (hk : k < 12) (hs : s < jN k) (h : (jIsRefT.getD k []).getD s false = false) : defaultValue (jTy k s) = .int 0 := by
  rcases (jfin_num hk hs h).2 with q | ⟨q, -⟩ <;> rw [q] <;> rfl
theorem jdef_ref {k s : Nat} (hk : k < 12) (hs : s < jN k) (h : (jIsRefT.getD k []).getD s false = true) : defaultValue (jTy k s) = .null := by
  have h1 := (jfin_ref hk hs h 0).2.2.2
  revert h1
  cases jTy k s <;> intro h1 <;> first | rfl | cases h1
set_option maxHeartbeats 8000000 in
set_option maxRecDepth 20000 in
theorem jsim_new {cells slots mm pc n : Nat} {al al' : jL} {st st' : List jV} {σ σ' : jS} {pc' : Nat} {I : Instr} {ls : Array Slot} {H : Heap} {locs : List Loc} (hI : jNew I = true)
    (C0 : jStat p R s m args meth c base mm) (hG : jGd g b base) (hF : jF mm pc = some (I, n)) (h : jexe mm pc n al st σ I = some (.inl (pc', (al', (st', σ'))))) (N : jNow g b base dC dI cA s mm al st σ ls H locs)
    (hc : s.heap.size + cells = base + σ.1) (hcR : cells + (σ'.1 - σ.1) ≤ R.cells) (hsR : slots + (jsz σ'.1 - jsz σ.1) ≤ R.slots)
    (K : ∀ (H1 : Heap) (locs1 : List Loc), jNow g b base dC dI cA s mm al' st' σ' ls H1 locs1 → W p l e R s m args below meth c H1 locs1 (cells + (σ'.1 - σ.1)) (slots + (jsz σ'.1 - jsz σ.1)) Q (F0 m pc' ls (st'.map (jcv g)))) :
    W p l e R s m args below meth c H locs cells slots Q (F0 m pc ls (st.map (jcv g))) := by
  obtain ⟨hx, hb, hml, hown, hts, hlk, hin, hbs, hfr, hlo⟩ := C0
  have hd := jF_dec hF
  have hn := jF_ln hF
  obtain ⟨hR, hl, hva, hvs, hS⟩ := id N
  obtain ⟨h512, hP, hK, hC, hX, hL, hcl⟩ := id hR
  have hD := jWs_D (g := g) (base := base) (cA := cA) h512
  have hA : ∀ q, s.heap.size ≤ q → (fun q => base ≤ q) q := fun q hq => Nat.le_trans hbs hq
  cases I with
  | new i =>
    simp only [jln] at hn
    obtain rfl : n = 3 := by omega
    simp only [jexe] at h
    split at h
    · rename_i k r hq hr
      split at h
      · rename_i q
        obtain ⟨hrk, hk, hz⟩ := q
        obtain ⟨-, c1, c2, c3⟩ := jcls hq
        cases h
        have e0 : σ.1 + 1 - σ.1 = 1 := by omega
        have e1 : jsz (σ.1 + 1) - jsz σ.1 = jN k := by
          rw [jsz_succ hr, jsize, hrk, if_pos hk]
          omega
        rw [e0] at K hcR
        rw [e1] at K hsR
        have hr0 : r = (k, r.2) := Prod.ext hrk rfl
        refine va_new (D := (dC, dI)) (ci := k) (fs := jfs g (σ.1 + 1, (jSlots k r.2 ++ σ.2.1, σ.2.2)) k r.2) hx hb hts (juws hk) (jTy k) (jty_ok k hk) hown (hts _ c1) (hts _ c3) (hts _ c2) hK hP hD hS hA (jcl_at k hk) (fun j hj => ?_) hcR hsR hd (fun q H1 hP1 hD1 hS1 => ?_)
        · have e2 := jfs_at (g := g) (σ := (σ.1 + 1, (jSlots k r.2 ++ σ.2.1, σ.2.2))) (k := k) (s := j) (a := r.2) hj
          unfold vp_V
          rw [List.getD_eq_getElem?_getD, e2]
          by_cases hir : (jIsRefT.getD k []).getD j false = true
          · have e3 : (jSlots k r.2 ++ σ.2.1).contains ((k, r.2), j) = true := List.contains_iff_mem.mpr (List.mem_append_left _ (jSlots_mem hk hir))
            rw [if_pos hir, if_pos e3]
            exact jdef_ref hk hj hir
          · have hir : (jIsRefT.getD k []).getD j false = false := by simpa using hir
            rw [hir, jdef_num hk hj hir]
            simp [jzero_at hz hj]
        · refine jW_le (fun hsz => ?_)
          obtain rfl := jnew_q h512 hP1 hD1 hsz hc
          have hgr : g r = base + σ.1 := hG.1 σ.1 r hr
          have kk := K H1 locs (jnow_new (P' := jSlots k r.2 ++ σ.2.1) (st' := jRf r :: st) hG hbs hr N hS1 ?_ ?_ ?_ ?_)
          · have e4 : ((jRf r :: st).map (jcv g)) = Value.ref (base + σ.1) :: st.map (jcv g) := by
              rw [← hgr]
              rfl
            rw [e4] at kk
            exact kk
          · rw [jEn_obj (by omega), hrk]
            exact hP1
          · intro r' u hr'
            rw [Bool.eq_iff_iff, List.contains_iff_mem, List.contains_iff_mem, List.mem_append]
            constructor
            · rintro (z | z)
              · exact absurd ((jSlots_own z).trans hr0.symm) hr'
              · exact z
            · exact Or.inr
          · intro u hu
            rcases hu with ⟨-, hu⟩ | ⟨hu, -⟩
            · rw [hrk] at hu
              rw [hr0]
              exact List.mem_append_left _ (jSlots_mem hk hu)
            · omega
          · exact jvs_cons (Or.inl ⟨σ.1, Nat.lt_succ_self _, hr⟩) (fun v hv => jokv_mono (hvs v hv) (Nat.le_succ _))
      · cases h
    · cases h
  | newarray t =>
    simp only [jln] at hn
    obtain rfl : n = 2 := by omega
    simp only [jexe] at h
    split at h
    · rename_i x st0 r hr
      split at h
      · rename_i q
        obtain ⟨htk, hx0, hxl, hz⟩ := q
        cases h
        have e0 : σ.1 + 1 - σ.1 = 1 := by omega
        have e1 : jsz (σ.1 + 1) - jsz σ.1 = jLen r.1 r.2 := by
          rw [jsz_succ hr, jsize, if_neg (by omega)]
          omega
        rw [e0] at K hcR
        rw [e1] at K hsR
        have hlen : jLen r.1 r.2 ≤ 100000 := by
          have h0 : (jRefs.all fun r => Nat.ble (jLen r.1 r.2) 100000) = true := by decide +kernel
          exact Nat.le_of_ble_eq_true (List.all_eq_true.mp h0 r (List.mem_of_getElem? hr))
        have hgr : g r = base + σ.1 := hG.1 σ.1 r hr
        have fin : ∀ (ty : FieldType) (t0 : Nat), (jtys cA)[t0]? = some (cA r.1, ty) → newarray.typeOf t = ty → componentBytes ty ≤ 8 → defaultValue ty = .int 0 → Cond.arrayClass ty ∈ jTs → W p l e R s m args below meth c H locs cells slots Q (F0 m pc ls (.int x :: st0.map (jcv g))) := by
          intro ty t0 ht0 hty hcb hdv hac
          refine va_newa (atype := t) (a0 := (jLen r.1 r.2, .inl (fun j => σ.2.2 r.1 r.2 j))) hx hb (by rw [hty]; exact hts _ hac) hty hK hP hD hS hA (fun cA' => ?_) (Int32.not_lt.mpr hx0) hxl (by
            have : jLen r.1 r.2 * componentBytes ty ≤ 100000 * 8 := Nat.mul_le_mul hlen hcb
            omega) hcR hsR hd (fun q cA' H1 hK1 hP1 hD1 hS1 => ?_)
          · rw [vp_cell_i, hdv]
            exact arrV_congr (fun j hj => by rw [jzero_at hz hj])
          · have hcA : cA' = cA r.1 := by
              have h1 := (hK1.2 5 (cA', ty) rfl).2
              have h2 := (hK.2 t0 _ ht0).2
              exact jfit_nm h1 h2
            subst hcA
            refine jW_le (fun hsz => ?_)
            obtain rfl := jnew_q h512 hP1 hD1 hsz hc
            have kk := K H1 locs (jnow_new (P' := σ.2.1) (st' := jRf r :: st0) hG hbs hr N hS1 ?_ ?_ ?_ ?_)
            · have e4 : ((jRf r :: st0).map (jcv g)) = Value.ref (base + σ.1) :: st0.map (jcv g) := by
                rw [← hgr]
                rfl
              rw [e4] at kk
              exact kk
            · rw [jEn_ints (by omega)]
              exact hP1
            · intro r' u hr'
              rfl
            · intro u hu
              rcases hu with ⟨hu, -⟩ | ⟨hu, -⟩ <;> omega
            · exact jvs_cons (Or.inl ⟨σ.1, Nat.lt_succ_self _, hr⟩) (fun v hv => jokv_mono (hvs v (List.mem_cons_of_mem _ hv)) (Nat.le_succ _))
        rcases htk with ⟨h1, h2⟩ | ⟨h1, h2⟩ | ⟨h1, h2⟩
        · subst h1
          exact fin .int 0 (by rw [h2]; rfl) rfl (by decide) rfl jw_Aint
        · subst h1
          exact fin .boolean 1 (by rw [h2]; rfl) rfl (by decide) rfl jw_Aboolean
        · subst h1
          exact fin .byte 2 (by rw [h2]; rfl) rfl (by decide) rfl jw_Abyte
      · cases h
    · cases h
  | anewarray i =>
    simp only [jln] at hn
    obtain rfl : n = 3 := by omega
    simp only [jexe] at h
    split at h
    · rename_i x st0 k r hq hr
      split at h
      · rename_i q
        obtain ⟨htk, hx0, hxl⟩ := q
        obtain ⟨-, c1, c2, c3⟩ := jcls hq
        cases h
        have e0 : σ.1 + 1 - σ.1 = 1 := by omega
        have e1 : jsz (σ.1 + 1) - jsz σ.1 = jLen r.1 r.2 := by
          rw [jsz_succ hr, jsize, if_neg (by omega)]
          omega
        rw [e0] at K hcR
        rw [e1] at K hsR
        have hlen : jLen r.1 r.2 ≤ 100000 := by
          have h0 : (jRefs.all fun r => Nat.ble (jLen r.1 r.2) 100000) = true := by decide +kernel
          exact Nat.le_of_ble_eq_true (List.all_eq_true.mp h0 r (List.mem_of_getElem? hr))
        have hgr : g r = base + σ.1 := hG.1 σ.1 r hr
        have fin : ∀ (t0 : Nat), (jtys cA)[t0]? = some (cA r.1, .object (jC k)) → va_AO (jC k) s → W p l e R s m args below meth c H locs cells slots Q (F0 m pc ls (.int x :: st0.map (jcv g))) := by
          intro t0 ht0 hao
          refine va_newq hx hb hown (hts _ c1) hao hK hP hD hS hA (Int32.not_lt.mpr hx0) hxl (by omega) hcR hsR hd (fun q cA' H1 hK1 hP1 hD1 hS1 => ?_)
          have hcA : cA' = cA r.1 := by
            have h1 := (hK1.2 5 (cA', .object (jC k)) rfl).2
            have h2 := (hK.2 t0 _ ht0).2
            exact jfit_nm h1 h2
          subst hcA
          refine jW_le (fun hsz => ?_)
          obtain rfl := jnew_q h512 hP1 hD1 hsz hc
          have kk := K H1 locs (jnow_new (P' := (List.range (jLen r.1 r.2)).map (fun j => (r, j)) ++ σ.2.1) (st' := jRf r :: st0) hG hbs hr N hS1 ?_ ?_ ?_ ?_)
          · have e4 : ((jRf r :: st0).map (jcv g)) = Value.ref (base + σ.1) :: st0.map (jcv g) := by
              rw [← hgr]
              rfl
            rw [e4] at kk
            exact kk
          · rw [jEn_refs (by omega)]
            refine va_P.app (fun k' x' hx' => hP1 k' x' (by rw [List.getElem?_append_left (List.getElem?_eq_some_iff.mp hx').1]; exact hx')) (fun k' x' hx' => ?_)
            · have hz : k' < 1 := (List.getElem?_eq_some_iff.mp hx').1
              rw [show k' = 0 by omega] at hx'
              cases hx'
              have h1 := hP1 σ.1 (base + σ.1, .inl (cA r.1, jLen r.1 r.2, .inr (.inr (.inr (.inr (fun _ => none)))))) (by
                rw [List.getElem?_append_right (by rw [jWs_len]; exact Nat.le_refl _), jWs_len]
                simp)
              show H1[base + σ.1]? = some (vp_cell _ _)
              refine Eq.trans h1 ?_
              show some (vp_cell _ _) = some (vp_cell _ _)
              rw [vp_cell_q, vp_cell_q]
              congr 1
              refine arrV_congr (fun j hj => ?_)
              have e5 : ((List.range (jLen r.1 r.2)).map (fun j => (r, j)) ++ σ.2.1).contains (r, j) = true := List.contains_iff_mem.mpr (List.mem_append_left _ (List.mem_map.mpr ⟨j, List.mem_range.mpr hj, rfl⟩))
              simp only [e5, if_true]
          · intro r' u hr'
            rw [Bool.eq_iff_iff, List.contains_iff_mem, List.contains_iff_mem, List.mem_append]
            constructor
            · rintro (z | z)
              · obtain ⟨w, -, hw⟩ := List.mem_map.mp z
                exact absurd (Prod.mk.inj hw).1.symm hr'
              · exact z
            · exact Or.inr
          · intro u hu
            rcases hu with ⟨hu, -⟩ | ⟨-, hu⟩
            · omega
            · exact List.mem_append_left _ (List.mem_map.mpr ⟨u, List.mem_range.mpr hu, rfl⟩)
          · exact jvs_cons (Or.inl ⟨σ.1, Nat.lt_succ_self _, hr⟩) (fun v hv => jokv_mono (hvs v (List.mem_cons_of_mem _ hv)) (Nat.le_succ _))
        rcases htk with ⟨h1, h2⟩ | ⟨h1, h2⟩
        · subst h1
          exact fin 3 (by rw [h2]; rfl) hC.2.1
        · subst h1
          exact fin 4 (by rw [h2]; rfl) hC.2.2
      · cases h
    · cases h
  | _ => exact absurd hI (by simp [jNew])
end JNEW
end
section
/-! members that are stepped over at once; what a state keeps -/
theorem jlt4 {st : List jV} (g : jR → Nat) (h : st.length ≤ 4) : ((st.map (jcv g)).map fun v => v.category).sum ≤ 8 := by
  have key : ∀ (l : List jV), ((l.map (jcv g)).map fun v => v.category).sum ≤ 2 * l.length := by
    intro l
    induction l with
    | nil => simp
    | cons v l ih =>
      have : (jcv g v).category ≤ 2 := by rcases lv_cat (jcv g v) with h | h <;> omega
      simp only [List.map_cons, List.sum_cons, List.length_cons]
      omega
  have := key st
  omega
theorem jRel_same {g : jR → Nat} {b base : Nat} {dC : Nat → ClassId} {dI : Nat → Nat → Nat} {cA : Nat → ClassId} {σ : jS} {u U : State} {H : Heap} (h : u.vm = U.vm) (hR : jRel g b base dC dI cA σ u H) : jRel g b base dC dI cA σ U H := by
  have ha : u.vm.Alike U.vm := h ▸ Vm.Alike.refl u.vm
  obtain ⟨h1, h2, h3, ⟨c1, c2, c3⟩, ⟨x1, t1, ⟨adV, t2⟩, t3, t4⟩, h6, h7⟩ := hR
  refine ⟨h1, h2, h3.moved ha, ⟨fun w hw => ?_, c2.moved ha, c3.moved ha⟩, ⟨x1.moved ha, vk_R.same h.symm t1, ⟨adV, t2.moved ha⟩, t3.moved ha, t4.moved ha⟩, h6, h7⟩
  have e : w.onTables = true := by
    have h2 : jIsNest w = true := (List.mem_filter.mp hw).2
    cases w <;> first
      | rfl
      | (simp [jIsNest] at h2)
  exact va_Nw.same e h (c1 w hw)
theorem jRel_warm {g : jR → Nat} {b base : Nat} {dC : Nat → ClassId} {dI : Nat → Nat → Nat} {cA : Nat → ClassId} {σ : jS} {s U : State} {H : Heap} (hW : s.WarmedH U.vm) (hR : jRel g b base dC dI cA σ s H) : jRel g b base dC dI cA σ U H := by
  have ha := hW.alike
  obtain ⟨h1, h2, h3, h4, ⟨x1, x2⟩, h6, h7⟩ := hR
  exact ⟨h1, h2, h3.moved ha, jCar_warm hW h4, ⟨x1.moved ha, jXt_warm hW x2⟩, h6, h7⟩
/-- back from a call: the caller's tables, the callee's world -/
theorem jRel_back {g : jR → Nat} {b base : Nat} {dC : Nat → ClassId} {dI : Nat → Nat → Nat} {cA : Nat → ClassId} {σ σ1 : jS} {s t : State} {H H1 : Heap} (ha : t.vm.Alike s.vm) (hR : jRel g b base dC dI cA σ s H) (hT : jRel g b base dC dI cA σ1 t H1) : jRel g b base dC dI cA σ1 s H1 := by
  obtain ⟨-, -, k3, k4, ⟨-, t1, -⟩, -, -⟩ := hR
  obtain ⟨h1, h2, -, -, ⟨x1, -, ⟨adV, t2⟩, t3, t4⟩, h6, h7⟩ := hT
  exact ⟨h1, h2, k3, k4, ⟨x1.moved ha, t1, ⟨adV, t2.moved ha⟩, t3.moved ha, t4.moved ha⟩, h6, h7⟩
theorem jstr_own {own i : Nat} {u : Unit} (h : (jStrT.getD own []).lookup i = some u) : jC own = "PlayedLaws" ∧ i = 77 := by
  have h1 := jlookup_mem _ _ _ h
  have h0 : (jStrT.zipIdx.all fun q => q.1.all fun x => decide (jC q.2 = "PlayedLaws") && x.1 == 77) = true := by decide +kernel
  have h2 := List.all_eq_true.mp (List.all_eq_true.mp h0 _ (jmem_getD h1)) _ h1
  simp only [Bool.and_eq_true, decide_eq_true_eq, beq_iff_eq] at h2
  exact h2
theorem jCp_other {M : jM} {x y : jA} {sp dp n k j : Nat} {a : jA} (h : ¬ (k = 12 ∧ a = y)) : jCp M x y sp dp n k a j = M k a j := by
  unfold jCp
  rw [if_neg h]
theorem jcopy_words : nativeFrameWords "java/lang/System" "arraycopy" 5 ≤ 900 := by decide +kernel
theorem jok_str {n : Nat} {a : jA} (h : jok n (18, a)) : a = (0, 0) := by
  rcases h with ⟨j, -, h2⟩ | h | h
  · have h0 : (jRefs.all fun r => decide (r.1 < 17)) = true := by decide +kernel
    have := of_decide_eq_true (List.all_eq_true.mp h0 _ (List.mem_of_getElem? h2))
    simp at this
  · cases h
  · cases h
    rfl
theorem jno_onest {own h : String} {i : Nat} (hm : Cond.methodLinkNest own i (jYT.getD 198 objectInit) h ∈ jNest) : False := by
  have h0 : (jNest.all fun w => match w with
    | .methodLinkNest _ _ y _ => decide (y.cls ≠ "java/lang/Object")
    | _ => true) = true := by decide +kernel
  have := of_decide_eq_true (List.all_eq_true.mp h0 _ hm)
  exact this (by decide +kernel)
section JCALL
variable {p : Program} {l : Launch} {e : Env} {R : Room} {s : State} {m : MethodId} {args : Array Value} {below : List Frame} {meth : Method} {c : Code} {Q : State → Prop}
variable {g : jR → Nat} {b base : Nat} {dC : Nat → ClassId} {dI : Nat → Nat → Nat} {cA : Nat → ClassId}
/-- the string's length and signs, at a call: W steps over them -/
def jStrOk (g : jR → Nat) (b base : Nat) (dC : Nat → ClassId) (dI : Nat → Nat → Nat) (cA : Nat → ClassId) (l : Launch) : Prop :=
  ∀ {p : Program} {e : Env} {R : Room} {s : State} {m : MethodId} {args : Array Value} {below : List Frame} {meth : Method} {c : Code} {Q : State → Prop} {cells slots mm pc i : Nat} {al : jL} {st st0 : List jV} {σ : jS} {ls : Array Slot} {H : Heap} {locs : List Loc},
    jStat p R s m args meth c base mm → jGd g b base → 10 ≤ R.frames → cells ≤ R.cells → slots ≤ R.slots → jF mm pc = some (.invokevirtual i, 3) → jNow g b base dC dI cA s mm al st σ ls H locs → st0.length ≤ 4 →
    ((jMthT.getD (jOwn mm) []).lookup i = some 901 → W p l e R s m args below meth c H locs cells slots Q (F0 m (pc + 3) ls (.int (Int32.ofNat jstr.length) :: st0.map (jcv g))) → W p l e R s m args below meth c H locs cells slots Q (F0 m pc ls (.ref (g (18, (0, 0))) :: st0.map (jcv g)))) ∧
    ((jMthT.getD (jOwn mm) []).lookup i = some 902 → ∀ x : Int32, 0 ≤ x → x.toNatClampNeg < jstr.length → W p l e R s m args below meth c H locs cells slots Q (F0 m (pc + 3) ls (.int (jstr.getD x.toNatClampNeg 0) :: st0.map (jcv g))) → W p l e R s m args below meth c H locs cells slots Q (F0 m pc ls (.int x :: .ref (g (18, (0, 0))) :: st0.map (jcv g))))
theorem jinv_no {mm i n : Nat} {st : List jV} {I : Instr} {x : jFr} (h : jinv mm i n st I = some (.inl x)) : False := by
  unfold jinv at h
  split at h
  · split at h
    · split at h
      · cases h
      · cases h
    · cases h
  · cases h
def jNat : Instr → Bool
  | .ldc _ | .invokespecial _ | .invokestatic _ | .invokevirtual _ => true
  | _ => false
set_option maxHeartbeats 8000000 in
set_option maxRecDepth 20000 in
theorem jsim_nat {cells slots mm pc n : Nat} {al al' : jL} {st st' : List jV} {σ σ' : jS} {pc' : Nat} {I : Instr} {ls : Array Slot} {H : Heap} {locs : List Loc} (hStr : jStrOk g b base dC dI cA l) (hI : jNat I = true)
    (C0 : jStat p R s m args meth c base mm) (hG : jGd g b base) (hF : jF mm pc = some (I, n)) (h : jexe mm pc n al st σ I = some (.inl (pc', (al', (st', σ'))))) (N : jNow g b base dC dI cA s mm al st σ ls H locs)
    (h10 : 10 ≤ R.frames) (hcR : cells ≤ R.cells) (hsR : slots ≤ R.slots)
    (K : σ'.1 = σ.1 → ∀ (H1 : Heap) (locs1 : List Loc), jNow g b base dC dI cA s mm al' st' σ' ls H1 locs1 → W p l e R s m args below meth c H1 locs1 cells slots Q (F0 m pc' ls (st'.map (jcv g)))) :
    W p l e R s m args below meth c H locs cells slots Q (F0 m pc ls (st.map (jcv g))) := by
  have C0' := C0
  obtain ⟨hx, hb, hml, hown, hts, hlk, hin, hbs, hfr, hlo⟩ := C0
  have hd := jF_dec hF
  have hn := jF_ln hF
  obtain ⟨hR, hl, hva, hvs, hS⟩ := id N
  obtain ⟨h512, hP, hK, hC, hX, hL, hcl⟩ := id hR
  have hD := jWs_D (g := g) (base := base) (cA := cA) h512
  have hms : c.maxLocals = ls.size := by rw [hml, hl.2.1]
  cases I with
  | ldc i =>
    simp only [jln] at hn
    obtain rfl : n = 2 := by omega
    simp only [jexe] at h
    split at h
    · rename_i x q
      cases h
      exact lv_ldc hx hb hown (hts _ (jcst q)) hd (K rfl H locs (jnow_st N (jvs_cons trivial hvs)))
    · split at h
      · rename_i q
        obtain ⟨q1, q2⟩ := jstr_own q
        cases h
        subst q2
        have kk := K rfl H locs (jnow_st N (jvs_cons (show jok σ.1 (18, (0, 0)) from Or.inr (Or.inr rfl)) hvs))
        rw [q1] at hown
        exact va_ldcS hx hb hown hX.2.1 hd kk
      · cases h
  | invokespecial i =>
    simp only [jln] at hn
    obtain rfl : n = 3 := by omega
    simp only [jexe] at h
    split at h
    · rename_i q
      split at h
      · rename_i r st0
        split at h
        · rename_i q2
          cases h
          have hlink : Cond.methodLink (jC (jOwn mm)) i objectInit ∈ jTs := by
            rcases jlnk (Or.inr rfl) q with z | z
            · exact z
            · exact absurd z jno_onest
          have h4 := jlt4 g q2.2
          exact W.objInit hx hb hown (hts _ hlink) (hts _ jw_oinst) (hts _ jw_ocode) rfl (by rw [hml]; exact hl.2.1) rfl hd hfr (by show 2 * 0 + _ + 12 ≤ _; omega) (K rfl H locs (jnow_st N (jvs_tl hvs)))
        · cases h
      · cases h
    · exact (jinv_no h).elim
  | invokestatic i =>
    simp only [jln] at hn
    obtain rfl : n = 3 := by omega
    simp only [jexe] at h
    split at h
    · rename_i q
      split at h
      · rename_i cn d r sp u st0
        split at h
        · rename_i q2
          obtain ⟨⟨hr12, hq12, -, h4⟩, hs0, hd0, hc0, hle1, hle2⟩ := q2
          obtain ⟨j, j1, j2, j3, j4⟩ := jRel_at hG hR (hvs (jRf r) (List.mem_cons_of_mem _ (List.mem_cons_of_mem _ List.mem_cons_self))) hr12 (by omega)
          obtain ⟨j', k1, k2, k3, k4⟩ := jRel_at hG hR (hvs (jRf u) (List.mem_cons_of_mem _ (List.mem_cons_of_mem _ (List.mem_cons_of_mem _ (List.mem_cons_of_mem _ List.mem_cons_self))))) hq12 (by omega)
          rw [jEn_ints (Or.inl hr12), hr12] at j4
          rw [jEn_ints (Or.inl hq12), hq12] at k4
          have h4 := jlt4 g h4
          have hw := jcopy_words
          cases h
          show W p l e R s m args below meth c H locs cells slots Q (F0 m pc ls (.int cn :: .int d :: .ref (g r) :: .int sp :: .ref (g u) :: st'.map (jcv g)))
          rw [j3, k3]
          refine va_copyi hx hb hms hown (hts _ (jlnk_copy q)) (hts _ jw_nat) (hts _ jw_cst) (hts _ jw_sys) hK hP hD hS j' j 0 0 k4 j4 (jtys_at cA).1 (jtys_at cA).1 rfl (Int32.not_lt.mpr hs0) (Int32.not_lt.mpr hd0) (Int32.not_lt.mpr hc0) hle1 hle2 (fun _ _ => rfl) hfr (by omega) hd (fun H1 locs1 hP1 _ hS1 => K rfl H1 locs1 ?_)
          have e17 : ∀ a j, jCp σ.2.2 u.2 r.2 sp.toNatClampNeg d.toNatClampNeg cn.toNatClampNeg 17 a j = σ.2.2 17 a j := fun a j => jCp_other (fun z => by omega)
          obtain ⟨n1, n2, n3, n4, n5⟩ := N
          refine ⟨⟨h512, ?_, hK, hC, ?_, ?_, hcl⟩, n2, n3, fun v hv => hvs v (List.mem_cons_of_mem _ (List.mem_cons_of_mem _ (List.mem_cons_of_mem _ (List.mem_cons_of_mem _ (List.mem_cons_of_mem _ hv))))), hS1⟩
          · have e := jWs_set (g := g) (base := base) (cA := cA) (σ := σ) (σ' := (σ.1, (σ.2.1, jCp σ.2.2 u.2 r.2 sp.toNatClampNeg d.toNatClampNeg cn.toNatClampNeg))) rfl j1 j2 h512 (fun r' hr' => ?_)
            · rw [e, jEn_ints (Or.inl hr12), hr12]
              have e1 : (fun j => jCp σ.2.2 u.2 r.2 sp.toNatClampNeg d.toNatClampNeg cn.toNatClampNeg 12 r.2 j) = va_cpy (σ.2.2 12 u.2) (σ.2.2 12 r.2) sp.toNatClampNeg d.toNatClampNeg cn.toNatClampNeg := by
                funext j
                unfold jCp
                rw [if_pos ⟨rfl, rfl⟩]
              show va_P (dC, dI) jCl ((jWs g base cA σ).set j (base + j, .inl (cA 12, (jLen 12 r.2, .inl (fun j => jCp σ.2.2 u.2 r.2 sp.toNatClampNeg d.toNatClampNeg cn.toNatClampNeg 12 r.2 j))))) H1
              rw [e1]
              exact hP1
            · have key : ∀ j, jCp σ.2.2 u.2 r.2 sp.toNatClampNeg d.toNatClampNeg cn.toNatClampNeg r'.1 r'.2 j = σ.2.2 r'.1 r'.2 j := fun j => jCp_other (fun z => hr' (Prod.ext (z.1.trans hr12.symm) z.2))
              have e3 : jfs g (σ.1, (σ.2.1, jCp σ.2.2 u.2 r.2 sp.toNatClampNeg d.toNatClampNeg cn.toNatClampNeg)) r'.1 r'.2 = jfs g σ r'.1 r'.2 := by
                unfold jfs
                simp only [key]
              unfold jEn
              rw [e3]
              simp only [key]
          · have e2 : jCp σ.2.2 u.2 r.2 sp.toNatClampNeg d.toNatClampNeg cn.toNatClampNeg 17 (0, 0) = σ.2.2 17 (0, 0) := funext fun j => e17 _ j
            show jXs g b base (jCp σ.2.2 u.2 r.2 sp.toNatClampNeg d.toNatClampNeg cn.toNatClampNeg 17 (0, 1) 0).toNatClampNeg (jCp σ.2.2 u.2 r.2 sp.toNatClampNeg d.toNatClampNeg cn.toNatClampNeg 17 (0, 0)) s H1
            rw [e17, e2]
            exact jX_keep hG hbs hX hS hS1
          · show Int32.ofNat (jCp σ.2.2 u.2 r.2 sp.toNatClampNeg d.toNatClampNeg cn.toNatClampNeg 17 (0, 1) 0).toNatClampNeg = jCp σ.2.2 u.2 r.2 sp.toNatClampNeg d.toNatClampNeg cn.toNatClampNeg 17 (0, 1) 0
            rw [e17]
            exact hL
        · cases h
      · cases h
    · rename_i q
      split at h
      · rename_i y x st0
        split at h
        · rename_i q2
          have h4 := jlt4 g q2.2
          cases h
          exact va_mmax hx hb hms hown (hts _ (jlnk_max q)) (hts _ jw_maxS) (hts _ jw_math) (hts _ jw_maxC) hfr (by omega) hcR hsR hd (K rfl H locs (jnow_st N (jvs_cons trivial (jvs_tl (jvs_tl hvs)))))
        · cases h
      · cases h
    · rename_i q
      split at h
      · rename_i y x st0
        split at h
        · rename_i q2
          have h4 := jlt4 g q2.2
          cases h
          exact va_mmin hx hb hms hown (hts _ (jlnk_min q)) (hts _ jw_minS) (hts _ jw_math) (hts _ jw_minC) hfr (by omega) hcR hsR hd (K rfl H locs (jnow_st N (jvs_cons trivial (jvs_tl (jvs_tl hvs)))))
        · cases h
      · cases h
    · exact (jinv_no h).elim
  | invokevirtual i =>
    simp only [jln] at hn
    obtain rfl : n = 3 := by omega
    simp only [jexe] at h
    split at h
    · rename_i q
      split at h
      · rename_i a st0
        split at h
        · rename_i q2
          cases h
          have ha : a = (0, 0) := jok_str (hvs _ List.mem_cons_self)
          subst ha
          exact (hStr C0' hG h10 hcR hsR hF N q2.2).1 q (K rfl H locs (jnow_st N (jvs_cons trivial (jvs_tl hvs))))
        · cases h
      · cases h
    · rename_i q
      split at h
      · rename_i x a st0
        split at h
        · rename_i q2
          cases h
          have ha : a = (0, 0) := jok_str (hvs _ (List.mem_cons_of_mem _ List.mem_cons_self))
          subst ha
          exact (hStr C0' hG h10 hcR hsR hF N q2.1.2).2 q x q2.2.1 q2.2.2 (K rfl H locs (jnow_st N (jvs_cons trivial (jvs_tl (jvs_tl hvs)))))
        · cases h
      · cases h
    · exact (jinv_no h).elim
  | _ => exact absurd hI (by simp [jNat])
end JCALL
end
section
/-! a run of the pure machine is a run of the machine -/
set_option maxHeartbeats 8000000 in
theorem jexe_mono {mm pc n : Nat} {al al' : jL} {st st' : List jV} {σ σ' : jS} {pc' : Nat} {I : Instr} (h : jexe mm pc n al st σ I = some (.inl (pc', (al', (st', σ'))))) : σ.1 ≤ σ'.1 := by
  cases I <;> simp only [jexe, jbr] at h <;> (repeat' split at h) <;> first
    | (cases h; first | exact Nat.le_refl _ | exact Nat.le_succ _)
    | cases h
    | exact (jinv_no h).elim
set_option maxHeartbeats 8000000 in
theorem jexe_call {mm pc n : Nat} {al : jL} {st as rest : List jV} {σ : jS} {m' : Nat} {I : Instr} (h : jexe mm pc n al st σ I = some (.inr (.inl (m', (as, rest))))) : ∃ i, (I = .invokespecial i ∨ I = .invokevirtual i ∨ I = .invokestatic i) ∧ jinv mm i n st I = some (.inr (.inl (m', (as, rest)))) := by
  cases I <;> simp only [jexe, jbr] at h <;> (repeat' split at h) <;> first
    | cases h
    | exact ⟨_, Or.inl rfl, h⟩
    | exact ⟨_, Or.inr (Or.inl rfl), h⟩
    | exact ⟨_, Or.inr (Or.inr rfl), h⟩
set_option maxHeartbeats 8000000 in
theorem jexe_noret {mm pc n : Nat} {al : jL} {st : List jV} {σ : jS} {I : Instr} {v : Option jV} (h1 : I ≠ .ireturn) (h2 : I ≠ .areturn) (h3 : I ≠ .return_) : jexe mm pc n al st σ I ≠ some (.inr (.inr v)) := by
  intro h
  cases I <;> first
    | exact h1 rfl
    | exact h2 rfl
    | exact h3 rfl
    | (simp only [jexe, jbr, jinv] at h; (repeat' split at h) <;> cases h)
theorem jinv_spec {mm i n m' : Nat} {st as rest : List jV} {I : Instr} (h : jinv mm i n st I = some (.inr (.inl (m', (as, rest))))) : (jMthT.getD (jOwn mm) []).lookup i = some m' ∧ jpop m' st = some (as, rest) ∧ rest.length ≤ 4 ∧ m' < 197 ∧ as.length ≤ jMaxT.getD m' 0 ∧ as.all jsm = true ∧ jkind I m' = true := by
  unfold jinv at h
  split at h
  · rename_i m1 q
    split at h
    · rename_i as1 rest1 q1
      split at h
      · rename_i q2
        cases h
        exact ⟨q, q1, q2.1.1, q2.1.2.2, q2.2.1, q2.2.2.1, q2.2.2.2⟩
      · cases h
    · cases h
  · cases h
theorem jpop_spec {m' : Nat} {st as rest : List jV} (h : jpop m' st = some (as, rest)) : (jStatT.getD m' false = true ∧ st = as.reverse ++ rest ∧ as.length = jParT.getD m' 0) ∨ (jStatT.getD m' false = false ∧ ∃ (r : jR) (As : List jV), as = jRf r :: As ∧ st = As.reverse ++ jRf r :: rest ∧ As.length = jParT.getD m' 0 ∧ r.1 = jOwn m') := by
  unfold jpop at h
  split at h
  · rename_i hl
    split at h
    · rename_i hs
      obtain ⟨e1, e2⟩ := Prod.mk.inj (Option.some.inj h)
      subst e1; subst e2
      refine Or.inl ⟨hs, ?_, ?_⟩
      · rw [List.reverse_reverse, List.take_append_drop]
      · rw [List.length_reverse, List.length_take]
        omega
    · rename_i hs
      have hs : jStatT.getD m' false = false := by simpa using hs
      split at h
      · rename_i r rest1 q
        split at h
        · rename_i hr
          obtain ⟨e1, e2⟩ := Prod.mk.inj (Option.some.inj h)
          subst e1; subst e2
          refine Or.inr ⟨hs, r, _, rfl, ?_, ?_, hr⟩
          · rw [List.reverse_reverse, ← q, List.take_append_drop]
          · rw [List.length_reverse, List.length_take]
            omega
        · cases h
      · cases h
  · cases h
section JSND
variable {p : Program} {l : Launch} {e : Env} {R : Room} {s : State} {m : MethodId} {args : Array Value} {below : List Frame} {meth : Method} {c : Code} {Q : State → Prop}
variable {g : jR → Nat} {b base : Nat} {dC : Nat → ClassId} {dI : Nat → Nat → Nat} {cA : Nat → ClassId}
set_option maxHeartbeats 8000000 in
theorem jsim {cells slots mm pc n : Nat} {al al' : jL} {st st' : List jV} {σ σ' : jS} {pc' : Nat} {I : Instr} {ls : Array Slot} {H : Heap} {locs : List Loc} (hStr : jStrOk g b base dC dI cA l)
    (C0 : jStat p R s m args meth c base mm) (hG : jGd g b base) (hF : jF mm pc = some (I, n)) (h : jexe mm pc n al st σ I = some (.inl (pc', (al', (st', σ'))))) (N : jNow g b base dC dI cA s mm al st σ ls H locs)
    (hc : s.heap.size + cells = base + σ.1) (h10 : 10 ≤ R.frames) (hcR : cells + (σ'.1 - σ.1) ≤ R.cells) (hsR : slots + (jsz σ'.1 - jsz σ.1) ≤ R.slots)
    (K : ∀ (H1 : Heap) (ls1 : Array Slot) (locs1 : List Loc), jNow g b base dC dI cA s mm al' st' σ' ls1 H1 locs1 → W p l e R s m args below meth c H1 locs1 (cells + (σ'.1 - σ.1)) (slots + (jsz σ'.1 - jsz σ.1)) Q (F0 m pc' ls1 (st'.map (jcv g)))) :
    W p l e R s m args below meth c H locs cells slots Q (F0 m pc ls (st.map (jcv g))) := by
  by_cases h1 : jNum I = true
  · refine jsim_num h1 C0 hF h N (fun e ls1 hN => ?_)
    subst e
    have kk := K H ls1 locs hN
    rw [Nat.sub_self, Nat.sub_self] at kk
    exact kk
  · by_cases h2 : jMem I = true
    · refine jsim_mem h2 C0 hG hF h N (fun e H1 locs1 hN => ?_)
      have kk := K H1 ls locs1 hN
      rw [e, Nat.sub_self, Nat.sub_self] at kk
      exact kk
    · by_cases h3 : jNew I = true
      · exact jsim_new h3 C0 hG hF h N hc hcR hsR (fun H1 locs1 hN => K H1 ls locs1 hN)
      · by_cases h4 : jNat I = true
        · refine jsim_nat hStr h4 C0 hG hF h N h10 (by omega) (by omega) (fun e H1 locs1 hN => ?_)
          have kk := K H1 ls locs1 hN
          rw [e, Nat.sub_self, Nat.sub_self] at kk
          exact kk
        · exfalso
          cases I <;> first
            | exact h1 rfl
            | exact h2 rfl
            | exact h3 rfl
            | exact h4 rfl
            | (simp only [jexe] at h; (repeat' split at h) <;> cases h)
theorem jrun_mono : ∀ (f d mm : Nat) (pc : Nat) (al : jL) (st : List jV) (σ : jS) (v : Option jV) (σ' : jS), jrun f d mm (pc, (al, (st, σ))) = some (v, σ') → σ.1 ≤ σ'.1 := by
  intro f
  induction f with
  | zero => intro d mm pc al st σ v σ' h; simp [jrun] at h
  | succ f ih =>
    intro d mm pc al st σ v σ' h
    rw [jrun] at h
    unfold jstep at h
    cases hF : jF mm pc with
    | none => rw [hF] at h; cases h
    | some q =>
      obtain ⟨I, n⟩ := q
      rw [hF] at h
      dsimp only at h
      cases hx : jexe mm pc n al st σ I with
      | none => rw [hx] at h; cases h
      | some o =>
        rw [hx] at h
        rcases o with ⟨pc1, al1, st1, σ1⟩ | ⟨m', as, rest⟩ | v1
        · exact Nat.le_trans (jexe_mono hx) (ih _ _ _ _ _ _ _ _ h)
        · cases d with
          | zero => cases h
          | succ d =>
            dsimp only at h
            split at h
            · cases h
            · rename_i v2 σ2 q
              exact Nat.le_trans (ih _ _ _ _ _ _ _ _ q) (ih _ _ _ _ _ _ _ _ h)
        · cases h
          exact Nat.le_refl _
theorem jsz_mono {n n' : Nat} (h : n ≤ n') : jsz n ≤ jsz n' := by
  induction n' with
  | zero => rw [show n = 0 by omega]; exact Nat.le_refl _
  | succ k ih =>
    by_cases e : n = k + 1
    · rw [e]; exact Nat.le_refl _
    · have h1 := ih (by omega)
      cases hr : jRefs[k]? with
      | none =>
        have e2 : jsz (k + 1) = jsz k := by
          unfold jsz
          rw [List.take_add_one, hr]
          simp
        omega
      | some r =>
        rw [jsz_succ hr]
        omega
/-- what a run of f steps says of the machine -/
def jSnd (g : jR → Nat) (b base : Nat) (dC : Nat → ClassId) (dI : Nat → Nat → Nat) (cA : Nat → ClassId) (l : Launch) (f : Nat) : Prop :=
  ∀ (d mm pc : Nat) (al : jL) (st : List jV) (σ : jS) (v : Option jV) (σ' : jS), jrun f d mm (pc, (al, (st, σ))) = some (v, σ') →
    ∀ {p : Program} {e : Env} {R : Room} {s : State} {m : MethodId} {args : Array Value} {below : List Frame} {meth : Method} {c : Code} {Q : State → Prop} {cells slots : Nat} {ls : Array Slot} {H : Heap} {locs : List Loc},
      jStat p R s m args meth c base mm → d + 10 ≤ R.frames → 1000 + 100 * d ≤ R.locals → jNow g b base dC dI cA s mm al st σ ls H locs → s.heap.size + cells = base + σ.1 → cells + (σ'.1 - σ.1) ≤ R.cells → slots + (jsz σ'.1 - jsz σ.1) ≤ R.slots →
      (∀ (H1 : Heap) (ls1 : Array Slot) (locs1 : List Loc) (pc1 n1 : Nat) (al1 : jL) (st1 : List jV) (I1 : Instr), jF mm pc1 = some (I1, n1) → jexe mm pc1 n1 al1 st1 σ' I1 = some (.inr (.inr v)) → jNow g b base dC dI cA s mm al1 st1 σ' ls1 H1 locs1 →
        W p l e R s m args below meth c H1 locs1 (cells + (σ'.1 - σ.1)) (slots + (jsz σ'.1 - jsz σ.1)) Q (F0 m pc1 ls1 (st1.map (jcv g)))) →
      W p l e R s m args below meth c H locs cells slots Q (F0 m pc ls (st.map (jcv g)))
abbrev jrm (d k n : Nat) : Room := { frames := d + 10, cells := k, slots := n, locals := 1000 + 100 * d }
abbrev jwc (m' : Nat) : List Jvm.Cond := Cond.code (jYT.getD m' objectInit) (jBytesT.getD m' .empty) (jMaxT.getD m' 0) (jRetT.getD m' none) :: jTs
def jPc (g : jR → Nat) (b base : Nat) (dC : Nat → ClassId) (dI : Nat → Nat → Nat) (cA : Nat → ClassId) (as : List jV) (σ : jS) : Array Value → State → Prop := fun a U => a = (as.map (jcv g)).toArray ∧ U.heap.size = base + σ.1 ∧ jRel g b base dC dI cA σ U U.heap
def jQc (g : jR → Nat) (b base : Nat) (dC : Nat → ClassId) (dI : Nat → Nat → Nat) (cA : Nat → ClassId) (v1 : Option jV) (σ1 : jS) : Array Value → State → Outcome → State → Prop := fun _ st o t => o = .returned (v1.map (jcv g)) ∧ jRel g b base dC dI cA σ1 t t.heap ∧ va_F (fun q => base ≤ q) st t ∧ ∀ w, v1 = some w → jokv σ1.1 w
theorem jargs_at : ∀ (vs : List Value) (k i : Nat) (w : Value), (∀ v ∈ vs, v.category = 1) → vs[i]? = some w → (k + i, w) ∈ lv_args k vs
  | [], k, i, w, _, h => by simp at h
  | v :: vs, k, i, w, hc, h => by
    have h1 : ¬ v.category = 2 := by rw [hc v List.mem_cons_self]; decide
    unfold lv_args
    rw [if_neg h1]
    cases i with
    | zero =>
      rw [List.getElem?_cons_zero] at h
      cases h
      exact List.mem_cons_self
    | succ i =>
      rw [List.getElem?_cons_succ] at h
      have := jargs_at vs (k + 1) i w (fun v hv => hc v (List.mem_cons_of_mem _ hv)) h
      rw [show k + 1 + i = k + (i + 1) by omega] at this
      exact List.mem_cons_of_mem _ this
theorem jsm_cat {v : jV} (h : jsm v = true) : (jcv g v).category = 1 := by
  rcases v with x | x | _ | r
  · rfl
  · cases h
  · rfl
  · rfl
theorem jsl_len : ∀ (vs : List Value), (∀ v ∈ vs, v.category = 1) → (lg_sl vs).length = vs.length
  | [], _ => rfl
  | v :: vs, h => by
    have h1 : ¬ v.category = 2 := by rw [h v List.mem_cons_self]; decide
    have h2 := jsl_len vs (fun v hv => h v (List.mem_cons_of_mem _ hv))
    unfold lg_sl at h2 ⊢
    rw [List.flatMap_cons, if_neg h1, List.length_append, h2]
    simp
    omega
theorem jent_lr {m' : Nat} {as : List jV} {ls : Array Slot} (hlen : as.length ≤ jMaxT.getD m' 0) (hsm : as.all jsm = true) (h : lv_has ls (jMaxT.getD m' 0) (lv_args 0 (as.map (jcv g)))) : jlr g m' ls (jent m' as) := by
  have hcat : ∀ v ∈ as.map (jcv g), v.category = 1 := by
    intro v hv
    obtain ⟨w, hw, rfl⟩ := List.mem_map.mp hv
    exact jsm_cat (List.all_eq_true.mp hsm w hw)
  have key : ∀ (i : Nat) (v : jV), (jent m' as)[i]? = some (some v) → as[i]? = some v := by
    intro i v hv
    unfold jent at hv
    by_cases hi : i < as.length
    · rw [List.getElem?_append_left (by rw [List.length_map]; exact hi), List.getElem?_map] at hv
      cases hq : as[i]? with
      | none => rw [hq] at hv; cases hv
      | some w => rw [hq] at hv; cases hv; rfl
    · rw [List.getElem?_append_right (by rw [List.length_map]; omega)] at hv
      have := List.eq_of_mem_replicate (List.mem_of_getElem? hv)
      cases this
  refine ⟨?_, h.1, h.2.1, fun i v hv => ?_, fun i x hv => ?_⟩
  · unfold jent
    rw [List.length_append, List.length_map, List.length_replicate]
    omega
  · have h1 := key i v hv
    have h2 := jargs_at (as.map (jcv g)) 0 i (jcv g v) hcat (by rw [List.getElem?_map, h1]; rfl)
    rw [Nat.zero_add] at h2
    exact h.2.2 _ h2
  · have h1 := key i _ hv
    have := List.all_eq_true.mp hsm _ (List.mem_of_getElem? h1)
    cases this
theorem jent_va {m' n : Nat} {as : List jV} (h : jvs n as) : jva n (jent m' as) := by
  intro i v hv
  unfold jent at hv
  rcases List.mem_append.mp (List.mem_of_getElem? hv) with z | z
  · obtain ⟨w, hw, e⟩ := List.mem_map.mp z
    cases e
    exact h _ hw
  · have := List.eq_of_mem_replicate z
    cases this
theorem jHsize {σ : jS} {H : Heap} (h512 : σ.1 ≤ 512) (hP : va_P (dC, dI) jCl (jWs g base cA σ) H) (hb : base ≤ H.size) : base + σ.1 ≤ H.size := by
  by_cases h : σ.1 = 0
  · omega
  · have hi : σ.1 - 1 < σ.1 := by omega
    have hl : σ.1 - 1 < jRefs.length := by rw [jRefs_len]; omega
    have := (hP _ _ (jWs_get (g := g) (base := base) (cA := cA) hi (List.getElem?_eq_getElem hl))).lt
    dsimp only at this
    omega
set_option maxHeartbeats 4000000 in
set_option maxRecDepth 20000 in
/-- a method's contract out of its run -/
theorem jmet {f d' m' : Nat} {as : List jV} {σ σ1 : jS} {v1 : Option jV} (hS : jSnd g b base dC dI cA l f) (hm : m' < 197) (hrun : jrun f d' m' (0, (jent m' as, ([], σ))) = some (v1, σ1)) (has : jvs σ.1 as) (hlen : as.length ≤ jMaxT.getD m' 0) (hsm : as.all jsm = true) :
    Met l (jYT.getD m' objectInit) (jwc m') (jrm d' (σ1.1 - σ.1) (jsz σ1.1 - jsz σ.1)) (jPc g b base dC dI cA as σ) (jQc g b base dC dI cA v1 σ1) (σ1.1 - σ.1) (jsz σ1.1 - jsz σ.1) (fun q => base ≤ q) := by
  obtain ⟨-, -, -, -, -, hini, hcls, -, hpl⟩ := jmeth hm
  refine Met.ofW (cc := jBytesT.getD m' .empty) (maxL := jMaxT.getD m' 0) (ret := jRetT.getD m' none) hpl rfl ?_
  intro p e s m args below meth c s₁ B hml hPc
  obtain ⟨ha, hsz, hR⟩ := hPc
  subst ha
  have hts0 := atoms_spec (ws := jwc m') B.pre
  have hts : ∀ w ∈ jTs, w.before (as.map (jcv g)).toArray s = true := fun w hw => hts0 w (List.mem_cons_of_mem _ hw)
  have C0 : jStat p (headSpec (jwc m') (jrm d' (σ1.1 - σ.1) (jsz σ1.1 - jsz σ.1))).room s m (as.map (jcv g)).toArray meth c base m' := by
    refine ⟨B.exec, B.bytes, hml, ?_, hts, B.notSynchronized, fun h => ?_, by omega, ?_, ?_⟩
    · rw [← hcls]
      exact findClass_of_methodNamed B.named
    · rw [(name_of_methodNamed B.named B.method).1]
      exact hini h
    · show 1 ≤ d' + 10
      omega
    · show 1000 ≤ 1000 + 100 * d'
      omega
  have hcat : ∀ v ∈ as.map (jcv g), v.category = 1 := by
    intro v hv
    obtain ⟨w, hw, rfl⟩ := List.mem_map.mp hv
    exact jsm_cat (List.all_eq_true.mp hsm w hw)
  have hl := lv_entry (as.map (jcv g)) (n := jMaxT.getD m' 0) (by rw [jsl_len _ hcat, List.length_map]; exact hlen)
  rw [lg_entry_eq]
  generalize (lg_sl (as.map (jcv g)) ++ List.replicate (jMaxT.getD m' 0 - (lg_sl (as.map (jcv g))).length) Slot.unset).toArray = ls at hl ⊢
  have N : jNow g b base dC dI cA s m' (jent m' as) [] σ ls s.heap [] := ⟨hR, jent_lr hlen hsm hl, jent_va has, fun _ h => absurd h List.not_mem_nil, va_S.rf⟩
  refine hS d' m' 0 (jent m' as) [] σ v1 σ1 hrun C0 (Nat.le_refl _) (Nat.le_refl _) N hsz (by show 0 + (σ1.1 - σ.1) ≤ σ1.1 - σ.1; omega) (by show 0 + (jsz σ1.1 - jsz σ.1) ≤ jsz σ1.1 - jsz σ.1; omega) ?_
  intro H1 ls1 locs1 pc1 n1 al1 st1 I1 hF1 hx1 N1
  rw [Nat.zero_add, Nat.zero_add]
  have hd := jF_dec hF1
  have hn := jF_ln hF1
  have hq : ∀ t : State, t.heap = H1 → s.WarmedH t.vm → (∀ w, v1 = some w → jokv σ1.1 w) → jQc g b base dC dI cA v1 σ1 (as.map (jcv g)).toArray s (.returned (v1.map (jcv g))) t := fun t ht hW hv => ⟨rfl, by rw [ht]; exact jRel_warm hW N1.1, N1.2.2.2.2.F ht, hv⟩
  have hf : ∀ q ∈ locs1, (fun q => base ≤ q) q.base := N1.2.2.2.2.2.2
  have hx := B.exec
  have hb := B.bytes
  have hr := B.returns
  cases I1 with
  | ireturn =>
    simp only [jln] at hn
    obtain rfl : n1 = 1 := by omega
    simp only [jexe] at hx1
    split at hx1
    · rename_i x
      split at hx1
      · rename_i hnar
        cases hx1
        have hq' := fun t ht hW => hq t ht hW (fun w hw => by cases hw; trivial)
        cases hret : jRetT.getD m' none with
        | none => rw [hret] at hnar; cases hnar
        | some ty =>
          rw [hret] at hnar hr
          have hnr : narrow ty (.int x) = .int x := by
            revert hnar
            cases ty <;> intro hnar <;> first
              | rfl
              | exact (jnb (of_decide_eq_true hnar)).1
              | cases hnar
          exact W.zret hx hb hr hnr hq' hf hd B.notSynchronized
      · cases hx1
    · cases hx1
  | areturn =>
    simp only [jln] at hn
    obtain rfl : n1 = 1 := by omega
    simp only [jexe] at hx1
    split at hx1
    · rename_i x
      split at hx1
      · rename_i hnar
        cases hx1
        have hq' := fun t ht hW => hq t ht hW (fun w hw => by cases hw; exact N1.2.2.2.1 _ List.mem_cons_self)
        cases hret : jRetT.getD m' none with
        | none => rw [hret] at hnar; cases hnar
        | some ty =>
          rw [hret] at hnar hr
          have hob : (∃ n, ty = .object n) ∨ ∃ t, ty = .array t := by
            revert hnar
            cases ty <;> intro hnar <;> first
              | exact Or.inl ⟨_, rfl⟩
              | cases hnar
          have hv : jcv g (.inr (.inr x)) = .null ∨ ∃ a, jcv g (.inr (.inr x)) = .ref a := by
            rcases x with _ | r
            · exact Or.inl rfl
            · exact Or.inr ⟨_, rfl⟩
          exact W.aret hx hb hr hob hv hq' hf hd B.notSynchronized
      · cases hx1
    · cases hx1
  | return_ =>
    simp only [jln] at hn
    obtain rfl : n1 = 1 := by omega
    simp only [jexe] at hx1
    split at hx1
    · split at hx1
      · rename_i hret
        cases hx1
        rw [hret] at hr
        have hq' := fun t ht hW => hq t ht hW (fun w hw => by cases hw)
        exact W.vret hx hb hr hq' hf hd B.notSynchronized
      · cases hx1
    · cases hx1
  | _ => exact absurd hx1 (jexe_noret (fun h => by cases h) (fun h => by cases h) (fun h => by cases h))
end JSND
end
section
/-! calls; every run -/
section JRUN
variable {p : Program} {l : Launch} {e : Env} {R : Room} {s : State} {m : MethodId} {args : Array Value} {below : List Frame} {meth : Method} {c : Code} {Q : State → Prop}
variable {g : jR → Nat} {b base : Nat} {dC : Nat → ClassId} {dI : Nat → Nat → Nat} {cA : Nat → ClassId}
theorem jPc_blind {as : List jV} {σ : jS} : FrameBlind (jPc g b base dC dI cA as σ) := by
  intro a U f mk h
  obtain ⟨h1, h2, h3⟩ := h
  exact ⟨h1, h2, jRel_same (u := U) (U := U.calling f mk a) rfl h3⟩
theorem jrun_W {H : Heap} {locs : List Loc} {cells slots mc ms pc : Nat} {ls : Array Slot} {stk rest : List Value} {Qa : State → Outcome → State → Prop} {free : Addr → Prop}
    (run : va_Run p l e R s m args below meth c H locs cells slots mc ms (F0 m pc ls stk) rest Qa free)
    (kk : ∀ (v : Option Value) (st₀ t : State) (L : List Loc), st₀.heap = H → Qa st₀ (.returned v) t → t.vm.Alike s.vm → (∀ q ∈ L, free q.base) → W p l e R s m args below meth c t.heap (locs ++ L) (cells + mc) (slots + ms) Q (F0 m (pc + 3) ls (v.toList ++ rest))) : W p l e R s m args below meth c H locs cells slots Q (F0 m pc ls stk) := by
  intro T hT X
  obtain ⟨v, st₀, t, T', L, h0, X', hL, e1, e2, hQ, go⟩ := run T hT X
  obtain ⟨tt, a1, b1⟩ := kk v st₀ t L h0 hQ (by rw [← e2]; exact X'.warmed.alike.symm) hL T' e1 X'
  exact ⟨tt, go tt a1, b1⟩
theorem jinit_ret {m' : Nat} (h : jInitT.getD m' false = true) : jRetT.getD m' none = none := by
  have h0 : ((List.range 199).all fun k => !(jInitT.getD k false) || decide (jRetT.getD k none = none)) = true := by decide +kernel
  by_cases hm : m' < 199
  · have h1 := List.all_eq_true.mp h0 m' (List.mem_range.mpr hm)
    rw [h] at h1
    simpa using h1
  · rw [List.getD_eq_getElem?_getD, List.getElem?_eq_none (by rw [show jRetT.length = 199 by decide +kernel]; omega)]
    rfl
set_option maxHeartbeats 8000000 in
set_option maxRecDepth 20000 in
theorem jcall {f d mm pc i n m' : Nat} {al : jL} {st as rest : List jV} {σ σ1 : jS} {v1 : Option jV} {I : Instr} {cells slots : Nat} {ls : Array Slot} {H : Heap} {locs : List Loc} (hS : jSnd g b base dC dI cA l f) (hG : jGd g b base)
    (hI : I = .invokespecial i ∨ I = .invokevirtual i ∨ I = .invokestatic i) (hF : jF mm pc = some (I, n)) (hinv : jinv mm i n st I = some (.inr (.inl (m', (as, rest))))) (hr1 : jrun f d m' (0, (jent m' as, ([], σ))) = some (v1, σ1))
    (C0 : jStat p R s m args meth c base mm) (hfr : d + 1 + 10 ≤ R.frames) (hlo : 1000 + 100 * (d + 1) ≤ R.locals) (N : jNow g b base dC dI cA s mm al st σ ls H locs) (hc : s.heap.size + cells = base + σ.1) (hcR : cells + (σ1.1 - σ.1) ≤ R.cells) (hsR : slots + (jsz σ1.1 - jsz σ.1) ≤ R.slots)
    (K : ∀ (H1 : Heap) (locs1 : List Loc), jNow g b base dC dI cA s mm al (v1.toList ++ rest) σ1 ls H1 locs1 → W p l e R s m args below meth c H1 locs1 (cells + (σ1.1 - σ.1)) (slots + (jsz σ1.1 - jsz σ.1)) Q (F0 m (pc + 3) ls ((v1.toList ++ rest).map (jcv g)))) :
    W p l e R s m args below meth c H locs cells slots Q (F0 m pc ls (st.map (jcv g))) := by
  obtain ⟨hlk, hpop, hrl, hm, hlen, hsm, hkind⟩ := jinv_spec hinv
  obtain ⟨hx, hb, hml, hown, hts, hlocks, hin, hbs, hfr1, hlo1⟩ := C0
  obtain ⟨hR, hl, hva, hvs, hSS⟩ := id N
  obtain ⟨h512, hP, hK, hC, hX, hL, hcl⟩ := id hR
  obtain ⟨w1, w2, w3, w4, w5, w6, w7, w8, w9⟩ := jmeth hm
  have hd0 := jF_dec hF
  have hn0 := jF_ln hF
  refine jW_le (fun hsz => ?_)
  have hsz2 : H.size = base + σ.1 := by
    have := jHsize (dC := dC) (dI := dI) h512 hP (Nat.le_trans hbs hSS.1)
    omega
  have has : jvs σ.1 as := by
    rcases jpop_spec hpop with ⟨-, e1, -⟩ | ⟨-, r, As, e1, e2, -, -⟩
    · intro w hw
      exact hvs w (by rw [e1]; exact List.mem_append_left _ (List.mem_reverse.mpr hw))
    · intro w hw
      rw [e1] at hw
      rcases List.mem_cons.mp hw with rfl | hw
      · exact hvs _ (by rw [e2]; exact List.mem_append_right _ List.mem_cons_self)
      · exact hvs w (by rw [e2]; exact List.mem_append_left _ (List.mem_reverse.mpr hw))
  have hrest : jvs σ.1 rest := by
    rcases jpop_spec hpop with ⟨-, e1, -⟩ | ⟨-, r, As, e1, e2, -, -⟩
    · exact fun w hw => hvs w (by rw [e1]; exact List.mem_append_right _ hw)
    · exact fun w hw => hvs w (by rw [e2]; exact List.mem_append_right _ (List.mem_cons_of_mem _ hw))
  have hmono : σ.1 ≤ σ1.1 := jrun_mono _ _ _ _ _ _ _ _ _ hr1
  have hM := jmet hS hm hr1 has hlen hsm
  have hmax : jMaxT.getD m' 0 ≤ 12 := by
    have h0 : (jMaxT.all fun k => Nat.ble k 12) = true := by decide +kernel
    rw [List.getD_eq_getElem?_getD]
    cases hq : jMaxT[m']? with
    | none => simp
    | some k => exact Nat.le_of_ble_eq_true (List.all_eq_true.mp h0 k (List.mem_of_getElem? hq))
  have pay : ∀ w ∈ jwc m', ∀ (a' : Array Value) (U : State), s.WarmedH U.vm → w.before a' U = true := by
    intro w hw a' U hW
    rcases List.mem_cons.mp hw with rfl | hw
    · exact word_at hW (good_of_word (jTs_good _ w1)) (hts _ w1)
    · exact word_at hW (good_of_word (jTs_good _ hw)) (hts _ hw)
  have hpar : ∀ (k : Nat), k = jParT.getD m' 0 → ∀ sig, parseMethodDescriptor (jYT.getD m' objectInit).desc = some sig → k = sig.parameters.length := by
    intro k hk sig hsig
    rw [hsig] at w5
    rw [hk]
    exact (Option.some.inj w5).symm
  have hroom : (jrm d (σ1.1 - σ.1) (jsz σ1.1 - jsz σ.1)).frames + 1 ≤ R.frames ∧ 8 + (jMaxT.getD m' 0 + 11) + (jrm d (σ1.1 - σ.1) (jsz σ1.1 - jsz σ.1)).locals ≤ R.locals := ⟨by show d + 10 + 1 ≤ R.frames; omega, by show 8 + (jMaxT.getD m' 0 + 11) + (1000 + 100 * d) ≤ R.locals; omega⟩
  have hPU : ∀ U : State, U.heap = H → s.WarmedH U.vm → jPc g b base dC dI cA as σ (as.map (jcv g)).toArray U := fun U hU hW => ⟨rfl, by rw [hU]; exact hsz2, by rw [hU]; exact jRel_warm hW hR⟩
  have hw8 := jlt4 g hrl
  have CF : CallFix p m c (jBytesT.getD mm .empty) (jMaxT.getD mm 0) s args jTs (jC (jOwn mm)) := ⟨hx, hb, hml, hown, hts⟩
  -- behind the call
  have fin : ∀ (stk : List Value), va_Run p l e R s m args below meth c H locs cells slots (σ1.1 - σ.1) (jsz σ1.1 - jsz σ.1) (F0 m pc ls stk) (rest.map (jcv g)) (jQc g b base dC dI cA v1 σ1 (as.map (jcv g)).toArray) (fun q => base ≤ q) → W p l e R s m args below meth c H locs cells slots Q (F0 m pc ls stk) := by
    intro stk run
    refine jrun_W run (fun w st₀ t L h0 hQ hal hLL => ?_)
    obtain ⟨q1, q2, q3, q4⟩ := hQ
    have q1 : w = v1.map (jcv g) := Outcome.returned.inj q1
    subst q1
    have N1 : jNow g b base dC dI cA s mm al (v1.toList ++ rest) σ1 ls t.heap (locs ++ L) := by
      refine ⟨jRel_back hal hR q2, hl, fun i v h => jokv_mono (hva i v h) hmono, ?_, ?_⟩
      · intro v hv
        rcases List.mem_append.mp hv with hv | hv
        · exact q4 v (by cases v1 with
            | none => cases hv
            | some z => rw [List.mem_singleton.mp hv])
        · exact jokv_mono (hrest v hv) hmono
      · obtain ⟨f1, f2⟩ := q3
        rw [h0] at f1 f2
        refine ⟨Nat.le_trans hSS.1 f1, fun q g1 g2 => ?_, fun q hq => ?_⟩
        · exact (f2 q (Nat.lt_of_lt_of_le g1 hSS.1) g2).trans (hSS.2.1 q g1 g2)
        · rcases List.mem_append.mp hq with hq | hq
          · exact hSS.2.2 q hq
          · exact hLL q hq
    have kk := K t.heap (locs ++ L) N1
    have e1 : (v1.toList ++ rest).map (jcv g) = (v1.map (jcv g)).toList ++ rest.map (jcv g) := by
      cases v1 <;> simp
    rw [e1] at kk
    exact kk
  rcases jpop_spec hpop with ⟨hst, e1, e2⟩ | ⟨hst, r, As, e1, e2, e3, e4⟩
  · -- static
    have hI2 : I = .invokestatic i := by
      rcases hI with rfl | rfl | rfl
      · simp only [jkind, hst] at hkind
        exact absurd hkind (by simp)
      · simp only [jkind, hst] at hkind
        exact absurd hkind (by simp)
      · rfl
    subst hI2
    rw [if_pos hst] at w3
    simp only [jln] at hn0
    obtain rfl : n = 3 := by omega
    have hstk : st.map (jcv g) = (as.map (jcv g)).reverse ++ rest.map (jcv g) := by rw [e1, List.map_append, List.map_reverse]
    rw [hstk]
    refine fin _ ?_
    rcases jlnk (Or.inl hm) hlk with hl1 | hl1
    · exact va_runS CF hM ⟨⟨rfl, rfl, hroom.1, hroom.2, pay, List.mem_cons_self, hts _ w1, hts _ w2, w8, hpar _ (by rw [List.length_map]; exact e2), hts _ hl1⟩, hts _ w3⟩ ⟨jPc_blind, hPU⟩ rfl rfl hl.2.1 rfl (by show 2 * 0 + _ ≤ 8; omega) hd0 ⟨hcR, hsR⟩
    · exact va_runSN CF hM ⟨⟨⟨rfl, rfl, hroom.1, hroom.2, pay, List.mem_cons_self⟩, hts _ w1, hts _ w2, w8, hpar _ (by rw [List.length_map]; exact e2), va_Nw.use rfl (hC.1 _ hl1)⟩, hts _ w3, trivial⟩ ⟨jPc_blind, hPU⟩ rfl rfl hl.2.1 rfl (by show 2 * 0 + _ ≤ 8; omega) hd0 ⟨hcR, hsR⟩
  · rw [if_neg (by rw [hst]; decide)] at w3
    have hstk : st.map (jcv g) = (As.map (jcv g)).reverse ++ .ref (g r) :: rest.map (jcv g) := by
      rw [e2, List.map_append, List.map_reverse]
      rfl
    have has2 : (as.map (jcv g)).toArray = (Value.ref (g r) :: As.map (jcv g)).toArray := by rw [e1]; rfl
    rw [has2] at hPU fin
    rw [hstk]
    refine fin _ ?_
    have hnum : (As.map (jcv g)).length = jParT.getD m' 0 := by rw [List.length_map]; exact e3
    rcases hI with rfl | rfl | rfl
    · -- a constructor
      have hini : jInitT.getD m' false = true := by
        simp only [jkind, hst, Bool.not_false, Bool.true_and] at hkind
        exact hkind
      simp only [jln] at hn0
      obtain rfl : n = 3 := by omega
      have hret := jinit_ret hini
      have w1' := w1
      rw [hret] at w1'
      have mem' : Cond.code (jYT.getD m' objectInit) (jBytesT.getD m' .empty) (jMaxT.getD m' 0) none ∈ jwc m' := by
        rw [← hret]
        exact List.mem_cons_self
      rcases jlnk (Or.inl hm) hlk with hl1 | hl1
      · exact va_runI CF hM ⟨⟨rfl, rfl, hroom.1, hroom.2, pay, mem', hts _ w1', hts _ w2, w8, hpar _ hnum, hts _ hl1⟩, w6 hini, hts _ w3⟩ ⟨jPc_blind, hPU⟩ rfl rfl hl.2.1 rfl (by show 2 * 0 + _ ≤ 8; omega) hd0 ⟨hcR, hsR⟩
      · exact va_runIN CF hM ⟨⟨⟨rfl, rfl, hroom.1, hroom.2, pay, mem'⟩, hts _ w1', hts _ w2, w8, hpar _ hnum, va_Nw.use rfl (hC.1 _ hl1)⟩, w6 hini, hts _ w3⟩ ⟨jPc_blind, hPU⟩ rfl rfl hl.2.1 rfl (by show 2 * 0 + _ ≤ 8; omega) hd0 ⟨hcR, hsR⟩
    · -- a method of an object
      have hini : jInitT.getD m' false = false := by
        have := hkind
        simp only [jkind, hst, Bool.not_false, Bool.true_and, Bool.not_eq_true'] at this
        exact this
      simp only [jln] at hn0
      obtain rfl : n = 3 := by omega
      have hro : jok σ.1 r := hvs (jRf r) (by rw [e2]; exact List.mem_append_right _ List.mem_cons_self)
      have hk12 : r.1 < 12 := by
        rw [e4]
        have h0 : ((List.range 197).all fun k => jStatT.getD k false || Nat.blt (jOwn k) 12) = true := by decide +kernel
        have h1 := List.all_eq_true.mp h0 m' (List.mem_range.mpr hm)
        rw [hst] at h1
        simpa [Nat.blt_eq] using h1
      obtain ⟨j, j1, j2, j3, j4⟩ := jRel_at hG hR hro rfl (by omega)
      rw [jEn_obj hk12] at j4
      have hrecv := va_recv hK hP (jcl_at r.1 hk12) j4
      rw [← j3, e4] at hrecv
      have hPV : PreV s H (jC (jOwn m')) (g r) (jPc g b base dC dI cA as σ) (As.map (jcv g)) := ⟨jPc_blind, hrecv, hPU⟩
      rcases jlnk (Or.inl hm) hlk with hl1 | hl1
      · exact va_runV CF hM ⟨⟨rfl, rfl, hroom.1, hroom.2, pay, List.mem_cons_self, hts _ w1, hts _ w2, w8, hpar _ hnum, hts _ hl1⟩, hts _ w3, hts _ (w4 hst hini)⟩ hPV rfl rfl hl.2.1 rfl (by show 2 * 0 + _ ≤ 8; omega) hd0 ⟨hcR, hsR⟩
      · exact va_runVN CF hM ⟨⟨⟨rfl, rfl, hroom.1, hroom.2, pay, List.mem_cons_self⟩, hts _ w1, hts _ w2, w8, hpar _ hnum, va_Nw.use rfl (hC.1 _ hl1)⟩, hts _ w3, hts _ (w4 hst hini)⟩ hPV rfl rfl hl.2.1 rfl (by show 2 * 0 + _ ≤ 8; omega) hd0 ⟨hcR, hsR⟩
    · simp only [jkind, hst] at hkind
      exact absurd hkind (by simp)
set_option maxHeartbeats 4000000 in
/-- every run of the pure machine is the machine's -/
theorem jsnd (hStr : jStrOk g b base dC dI cA l) (hG : jGd g b base) : ∀ f, jSnd g b base dC dI cA l f := by
  intro f
  induction f with
  | zero => intro d mm pc al st σ v σ' h; simp [jrun] at h
  | succ f ih =>
    intro d mm pc al st σ v σ' h p e R s m args below meth c Q cells slots ls H locs C0 hfr hlo N hc hcR hsR K
    rw [jrun] at h
    unfold jstep at h
    cases hF : jF mm pc with
    | none => rw [hF] at h; cases h
    | some q =>
      obtain ⟨I, n⟩ := q
      rw [hF] at h
      dsimp only at h
      cases hx : jexe mm pc n al st σ I with
      | none => rw [hx] at h; cases h
      | some o =>
        rw [hx] at h
        rcases o with ⟨pc1, al1, st1, σ1⟩ | ⟨m', as, rest⟩ | v1
        · have m1 := jexe_mono hx
          have m2 := jrun_mono _ _ _ _ _ _ _ _ _ h
          have z1 := jsz_mono m1
          have z2 := jsz_mono m2
          refine jsim hStr C0 hG hF hx N hc (by omega) (by omega) (by omega) (fun H1 ls1 locs1 N1 => ?_)
          refine ih d mm pc1 al1 st1 σ1 v σ' h C0 hfr hlo N1 (by omega) (by omega) (by omega) (fun H2 ls2 locs2 pc2 n2 al2 st2 I2 f1 f2 f3 => ?_)
          have kk := K H2 ls2 locs2 pc2 n2 al2 st2 I2 f1 f2 f3
          rw [show cells + (σ1.1 - σ.1) + (σ'.1 - σ1.1) = cells + (σ'.1 - σ.1) by omega, show slots + (jsz σ1.1 - jsz σ.1) + (jsz σ'.1 - jsz σ1.1) = slots + (jsz σ'.1 - jsz σ.1) by omega]
          exact kk
        · cases d with
          | zero => cases h
          | succ d =>
            dsimp only at h
            split at h
            · cases h
            · rename_i v2 σ2 q
              obtain ⟨i, hI, hinv⟩ := jexe_call hx
              have m1 := jrun_mono _ _ _ _ _ _ _ _ _ q
              have m2 := jrun_mono _ _ _ _ _ _ _ _ _ h
              have z1 := jsz_mono m1
              have z2 := jsz_mono m2
              refine jcall ih hG hI hF hinv q C0 hfr hlo N hc (by omega) (by omega) (fun H1 locs1 N1 => ?_)
              refine ih (d + 1) mm (pc + 3) al _ σ2 v σ' h C0 hfr hlo N1 (by omega) (by omega) (by omega) (fun H2 ls2 locs2 pc2 n2 al2 st2 I2 f1 f2 f3 => ?_)
              have kk := K H2 ls2 locs2 pc2 n2 al2 st2 I2 f1 f2 f3
              rw [show cells + (σ2.1 - σ.1) + (σ'.1 - σ2.1) = cells + (σ'.1 - σ.1) by omega, show slots + (jsz σ2.1 - jsz σ.1) + (jsz σ'.1 - jsz σ2.1) = slots + (jsz σ'.1 - jsz σ.1) by omega]
              exact kk
        · cases h
          have kk := K H ls locs pc n al st I hF hx N
          rw [Nat.sub_self, Nat.sub_self] at kk
          exact kk
end JRUN
end
