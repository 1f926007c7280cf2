/-! the pools of the tables against the words of the claim -/
def jTs : List Jvm.Cond := lw_tbl.filter goodWord
def jIsNest : Jvm.Cond → Bool
  | .fieldLinkNest .. => true
  | .methodLinkNest .. => true
  | _ => false
def jNest : List Jvm.Cond := tables_1.filter jIsNest
theorem jlookup_mem {α : Type} : ∀ (l : List (Nat × α)) (k : Nat) (v : α), l.lookup k = some v → (k, v) ∈ l
  | [], k, v, h => by simp [List.lookup] at h
  | (a, b) :: l, k, v, h => by
    rw [List.lookup_cons] at h
    by_cases e : k = a
    · subst e
      simp at h
      subst h
      exact List.mem_cons_self
    · have e2 : (k == a) = false := by simp [e]
      rw [e2] at h
      exact List.mem_cons_of_mem _ (jlookup_mem l k v h)
abbrev jCl : List vw_C := [(RX0, TX0, 4), (RX1, TX1, 16), (RX2, TX2, 3), (RX3, TX3, 5), (RX4, TX4, 6), (RX5, TX5, 4), (RX6, TX6, 1), (RX7, TX7, 7), (RX8, TX8, 3), (RX9, TX9, 4), (RX10, TX10, 11), (RX11, TX11, 30)]
def jAt (i : Nat) (w : Jvm.Cond) : Bool := decide (lw_tbl[i]? = some w) && goodWord w
def jAtN (i : Nat) (w : Jvm.Cond) : Bool := decide (tables_1[i]? = some w) && jIsNest w
theorem jAt_mem {i : Nat} {w : Jvm.Cond} (h : jAt i w = true) : w ∈ jTs := by
  simp only [jAt, Bool.and_eq_true, decide_eq_true_eq] at h
  exact List.mem_filter.mpr ⟨List.mem_of_getElem? h.1, h.2⟩
theorem jAtN_mem {i : Nat} {w : Jvm.Cond} (h : jAtN i w = true) : w ∈ jNest := by
  simp only [jAtN, Bool.and_eq_true, decide_eq_true_eq] at h
  exact List.mem_filter.mpr ⟨List.mem_of_getElem? h.1, h.2⟩
theorem jTs_good : ∀ w ∈ jTs, goodWord w = true := fun w h => (List.mem_filter.mp h).2
def jC (k : Nat) : String := jROwn.getD k ""
def jT (k : Nat) : u_T := jTX.getD k (fun _ => ("", "", "", false))
def jN (k : Nat) : Nat := jNT.getD k 0
def jTy (k : Nat) : Nat → FieldType := jTyX.getD k (fun _ => .int)
def jFldOk (own i k s p : Nat) (nest : Bool) : Bool := (Nat.blt k 12 && Nat.blt s (jN k)) && (if nest then jAtN p (.fieldLinkNest (jC own) i (jT k s).1 (jT k s).2.1 (jT k s).2.2.1 "PlayedLaws") else jAt p (.fieldLink (jC own) i (jT k s).1 (jT k s).2.1 (jT k s).2.2.1))
def jFldC : List ((Nat × (Nat × (Nat × Nat))) × (Nat × Bool)) := [((0, (12, (0, 0))), (402, false)), ((0, (21, (0, 1))), (404, false)), ((0, (25, (0, 2))), (405, false)), ((0, (29, (0, 3))), (407, false)), ((0, (32, (1, 11))), (94, true)), ((0, (59, (1, 5))), (72, true)), ((0, (83, (1, 10))), (92, true)), ((0, (90, (1, 12))), (104, true)), ((1, (14, (1, 0))), (116, false)), ((1, (20, (1, 1))), (120, false)), ((1, (23, (1, 2))), (124, false)), ((1, (26, (1, 3))), (126, false)), ((1, (29, (1, 4))), (129, false)), ((1, (32, (1, 5))), (132, false)), ((1, (35, (1, 6))), (137, false)), ((1, (38, (1, 7))), (141, false)), ((1, (41, (1, 8))), (145, false)), ((1, (44, (1, 9))), (147, false)), ((1, (53, (1, 10))), (150, false)), ((1, (57, (1, 11))), (157, false)), ((1, (60, (1, 12))), (161, false)), ((1, (63, (1, 13))), (168, false)), ((1, (66, (1, 14))), (171, false)), ((1, (69, (1, 15))), (173, false)), ((1, (127, (4, 5))), (223, true)), ((1, (141, (4, 3))), (218, true)), ((2, (9, (2, 0))), (234, false)), ((2, (16, (2, 1))), (235, false)), ((2, (24, (2, 2))), (236, false)), ((3, (12, (3, 0))), (349, false)), ((3, (21, (3, 1))), (350, false)), ((3, (30, (3, 2))), (351, false)), ((3, (34, (3, 4))), (355, false)), ((3, (46, (1, 9))), (86, true)), ((3, (52, (3, 3))), (353, false)), ((3, (62, (1, 11))), (96, true)), ((3, (73, (4, 5))), (221, true)), ((4, (14, (4, 0))), (272, false)), ((4, (20, (4, 1))), (274, false)), ((4, (23, (4, 2))), (277, false)), ((4, (26, (4, 3))), (278, false)), ((4, (29, (4, 4))), (281, false)), ((4, (35, (4, 5))), (282, false)), ((4, (46, (1, 12))), (100, true)), ((4, (59, (1, 11))), (97, true)), ((4, (62, (1, 9))), (87, true)), ((4, (76, (1, 4))), (69, true)), ((4, (90, (1, 1))), (61, true)), ((4, (93, (1, 5))), (74, true)), ((4, (96, (1, 6))), (78, true)), ((4, (99, (1, 0))), (57, true)), ((4, (108, (1, 3))), (66, true)), ((4, (114, (1, 7))), (82, true)), ((5, (12, (5, 0))), (377, false)), ((5, (21, (5, 1))), (378, false)), ((5, (25, (1, 11))), (93, true)), ((5, (43, (1, 5))), (71, true)), ((5, (57, (1, 10))), (90, true)), ((5, (71, (5, 2))), (379, false)), ((5, (74, (5, 3))), (381, false)), ((5, (77, (1, 12))), (102, true)), ((5, (103, (1, 7))), (80, true)), ((5, (110, (1, 6))), (77, true)), ((5, (113, (4, 1))), (214, true)), ((6, (9, (6, 0))), (103, false)), ((7, (12, (7, 0))), (312, false)), ((7, (20, (7, 1))), (313, false)), ((7, (29, (7, 2))), (314, false)), ((7, (33, (7, 6))), (321, false)), ((7, (38, (7, 5))), (320, false)), ((7, (45, (7, 3))), (316, false)), ((7, (48, (7, 4))), (318, false)), ((7, (55, (1, 10))), (89, true)), ((7, (58, (1, 1))), (59, true)), ((7, (82, (1, 4))), (68, true)), ((7, (88, (1, 12))), (101, true)), ((7, (102, (1, 0))), (55, true)), ((8, (14, (8, 0))), (253, false)), ((8, (20, (8, 1))), (254, false)), ((8, (23, (8, 2))), (255, false)), ((9, (14, (9, 0))), (208, false)), ((9, (23, (9, 1))), (209, false)), ((9, (27, (9, 2))), (212, false)), ((9, (38, (9, 3))), (213, false)), ((9, (72, (1, 12))), (103, true)), ((9, (89, (1, 13))), (107, true)), ((10, (12, (10, 0))), (582, false)), ((10, (19, (10, 1))), (583, false)), ((10, (28, (10, 2))), (584, false)), ((10, (32, (10, 3))), (585, false)), ((10, (38, (10, 4))), (586, false)), ((10, (45, (10, 5))), (587, false)), ((10, (52, (10, 6))), (588, false)), ((10, (59, (10, 7))), (589, false)), ((10, (66, (10, 8))), (590, false)), ((10, (73, (10, 9))), (591, false)), ((10, (96, (9, 1))), (148, true)), ((10, (103, (9, 2))), (149, true)), ((10, (110, (1, 10))), (91, true)), ((10, (113, (1, 11))), (98, true)), ((10, (119, (1, 0))), (56, true)), ((10, (129, (1, 1))), (60, true)), ((10, (132, (1, 2))), (63, true)), ((10, (138, (1, 3))), (65, true)), ((10, (144, (1, 5))), (73, true)), ((10, (147, (1, 6))), (76, true)), ((10, (150, (1, 7))), (81, true)), ((10, (156, (1, 8))), (84, true)), ((10, (163, (4, 1))), (213, true)), ((10, (166, (4, 3))), (217, true)), ((10, (169, (4, 0))), (211, true)), ((10, (172, (4, 5))), (222, true)), ((10, (185, (1, 12))), (105, true)), ((10, (212, (1, 13))), (108, true)), ((10, (215, (2, 2))), (175, true)), ((10, (221, (10, 10))), (592, false)), ((10, (228, (7, 3))), (255, true)), ((10, (229, (7, 4))), (257, true)), ((10, (231, (7, 2))), (253, true)), ((10, (236, (3, 3))), (292, true)), ((10, (239, (3, 2))), (290, true)), ((10, (258, (5, 2))), (318, true)), ((10, (261, (5, 3))), (320, true)), ((10, (268, (8, 2))), (194, true)), ((10, (281, (0, 2))), (344, true)), ((10, (284, (0, 3))), (346, true)), ((10, (290, (0, 0))), (341, true)), ((10, (293, (1, 15))), (112, true)), ((10, (302, (1, 14))), (110, true)), ((11, (7, (11, 0))), (1053, false)), ((11, (13, (11, 2))), (1055, false)), ((11, (17, (11, 3))), (1056, false)), ((11, (20, (11, 4))), (1057, false)), ((11, (23, (11, 5))), (1058, false)), ((11, (26, (11, 6))), (1059, false)), ((11, (29, (11, 7))), (1060, false)), ((11, (32, (11, 8))), (1061, false)), ((11, (35, (11, 9))), (1062, false)), ((11, (38, (11, 10))), (1063, false)), ((11, (41, (11, 15))), (1068, false)), ((11, (44, (11, 16))), (1069, false)), ((11, (47, (11, 18))), (1071, false)), ((11, (50, (11, 20))), (1073, false)), ((11, (53, (11, 21))), (1074, false)), ((11, (56, (11, 22))), (1075, false)), ((11, (59, (11, 23))), (1076, false)), ((11, (63, (11, 24))), (1077, false)), ((11, (66, (11, 26))), (1079, false)), ((11, (69, (11, 27))), (1080, false)), ((11, (72, (11, 28))), (1081, false)), ((11, (85, (11, 1))), (1054, false)), ((11, (89, (11, 13))), (1066, false)), ((11, (96, (11, 14))), (1067, false)), ((11, (112, (11, 11))), (1064, false)), ((11, (124, (11, 12))), (1065, false)), ((11, (143, (11, 17))), (1070, false)), ((11, (146, (11, 19))), (1072, false)), ((11, (149, (11, 29))), (1082, false)), ((11, (163, (11, 25))), (1078, false))]
theorem jFldC_ok : (jFldC.all fun e => jFldOk e.1.1 e.1.2.1 e.1.2.2.1 e.1.2.2.2 e.2.1 e.2.2) = true := by decide +kernel
theorem jFldT_ok : (jFldT.zipIdx.all fun q => q.1.all fun x => jFldC.any fun e => decide (e.1 = (q.2, (x.1, x.2)))) = true := by decide +kernel
theorem jmem_getD {α : Type} {t : List (List α)} {own : Nat} {x : α} (h : x ∈ t.getD own []) : (t.getD own [], own) ∈ t.zipIdx := by
  rw [List.getD_eq_getElem?_getD] at h ⊢
  cases hq : t[own]? with
  | none => rw [hq] at h; exact absurd h List.not_mem_nil
  | some l => exact List.mem_zipIdx_iff_getElem?.mpr hq
theorem jfld {own i k s : Nat} (h : (jFldT.getD own []).lookup i = some (k, s)) : k < 12 ∧ s < jN k ∧ (Cond.fieldLink (jC own) i (jT k s).1 (jT k s).2.1 (jT k s).2.2.1 ∈ jTs ∨ Cond.fieldLinkNest (jC own) i (jT k s).1 (jT k s).2.1 (jT k s).2.2.1 "PlayedLaws" ∈ jNest) := by
  have h1 := jlookup_mem _ _ _ h
  have h2 := List.all_eq_true.mp jFldT_ok _ (jmem_getD h1)
  have h3 := List.all_eq_true.mp h2 _ h1
  obtain ⟨e, he, h4⟩ := List.any_eq_true.mp h3
  have h5 := List.all_eq_true.mp jFldC_ok _ he
  have h6 : e.1 = (own, (i, (k, s))) := of_decide_eq_true h4
  rw [h6] at h5
  simp only [jFldOk, Bool.and_eq_true, Nat.blt_eq] at h5
  refine ⟨h5.1.1, h5.1.2, ?_⟩
  have h7 := h5.2
  cases hb : e.2.2
  · rw [hb] at h7
    exact Or.inl (jAt_mem h7)
  · rw [hb] at h7
    exact Or.inr (jAtN_mem h7)
theorem jFldC_own : (jFldC.all fun e => e.1.1 != e.1.2.2.1 || !e.2.2) = true := by decide +kernel
theorem jfld_own {k i s : Nat} (h : (jFldT.getD k []).lookup i = some (k, s)) : Cond.fieldLink (jC k) i (jT k s).1 (jT k s).2.1 (jT k s).2.2.1 ∈ jTs := by
  have h1 := jlookup_mem _ _ _ h
  have h2 := List.all_eq_true.mp jFldT_ok _ (jmem_getD h1)
  have h3 := List.all_eq_true.mp h2 _ h1
  obtain ⟨e, he, h4⟩ := List.any_eq_true.mp h3
  have h5 := List.all_eq_true.mp jFldC_ok _ he
  have h8 := List.all_eq_true.mp jFldC_own _ he
  have h6 : e.1 = (k, (i, (k, s))) := of_decide_eq_true h4
  rw [h6] at h5 h8
  simp only [jFldOk, Bool.and_eq_true, Nat.blt_eq] at h5
  have h7 := h5.2
  cases hb : e.2.2
  · rw [hb] at h7
    exact jAt_mem h7
  · rw [hb] at h8
    simp at h8
def jMOk (m a b c d : Nat) : Bool := (jAt b (.initialized (jYT.getD m objectInit).cls) && (if jStatT.getD m false then jAt c (.static (jYT.getD m objectInit)) else jAt c (.instanceMethod (jYT.getD m objectInit)))) && ((if jStatT.getD m false || jInitT.getD m false then true else jAt d (.selects (jC (jOwn m)) (jYT.getD m objectInit) (jYT.getD m objectInit))) && (decide ((parseMethodDescriptor (jYT.getD m objectInit).desc).map (fun x => x.parameters.length) = some (jParT.getD m 0)) && (decide ((jYT.getD m objectInit).name = "<init>") == jInitT.getD m false) && (jYT.getD m objectInit).cls == jC (jOwn m) && decide ((jYT.getD m objectInit).cls ≠ "java/lang/invoke/MethodHandle" ∧ (jYT.getD m objectInit).cls ≠ "java/lang/invoke/VarHandle") && plainName (jYT.getD m objectInit).cls))
theorem jmk0 : jMOk 0 396 73 395 0 = true := by decide +kernel
set_option maxRecDepth 100000 in
theorem jcd0 : lw_tbl[396]? = some (Cond.code (jYT.getD 0 objectInit) (jBytesT.getD 0 .empty) (jMaxT.getD 0 0) (jRetT.getD 0 none)) := rfl
theorem jmk1 : jMOk 1 975 73 973 974 = true := by decide +kernel
set_option maxRecDepth 100000 in
theorem jcd1 : lw_tbl[975]? = some (Cond.code (jYT.getD 1 objectInit) (jBytesT.getD 1 .empty) (jMaxT.getD 1 0) (jRetT.getD 1 none)) := rfl
theorem jmk2 : jMOk 2 982 73 981 0 = true := by decide +kernel
set_option maxRecDepth 100000 in
theorem jcd2 : lw_tbl[982]? = some (Cond.code (jYT.getD 2 objectInit) (jBytesT.getD 2 .empty) (jMaxT.getD 2 0) (jRetT.getD 2 none)) := rfl
theorem jmk3 : jMOk 3 978 73 977 0 = true := by decide +kernel
set_option maxRecDepth 100000 in
theorem jcd3 : lw_tbl[978]? = some (Cond.code (jYT.getD 3 objectInit) (jBytesT.getD 3 .empty) (jMaxT.getD 3 0) (jRetT.getD 3 none)) := rfl
theorem jmk4 : jMOk 4 988 73 987 0 = true := by decide +kernel
set_option maxRecDepth 100000 in
theorem jcd4 : lw_tbl[988]? = some (Cond.code (jYT.getD 4 objectInit) (jBytesT.getD 4 .empty) (jMaxT.getD 4 0) (jRetT.getD 4 none)) := rfl
theorem jmk5 : jMOk 5 996 73 994 995 = true := by decide +kernel
set_option maxRecDepth 100000 in
theorem jcd5 : lw_tbl[996]? = some (Cond.code (jYT.getD 5 objectInit) (jBytesT.getD 5 .empty) (jMaxT.getD 5 0) (jRetT.getD 5 none)) := rfl
theorem jmk6 : jMOk 6 1004 73 1003 24 = true := by decide +kernel
set_option maxRecDepth 100000 in
theorem jcd6 : lw_tbl[1004]? = some (Cond.code (jYT.getD 6 objectInit) (jBytesT.getD 6 .empty) (jMaxT.getD 6 0) (jRetT.getD 6 none)) := rfl
theorem jmk7 : jMOk 7 112 66 111 0 = true := by decide +kernel
set_option maxRecDepth 100000 in
theorem jcd7 : lw_tbl[112]? = some (Cond.code (jYT.getD 7 objectInit) (jBytesT.getD 7 .empty) (jMaxT.getD 7 0) (jRetT.getD 7 none)) := rfl
theorem jmk8 : jMOk 8 482 66 480 481 = true := by decide +kernel
set_option maxRecDepth 100000 in
theorem jcd8 : lw_tbl[482]? = some (Cond.code (jYT.getD 8 objectInit) (jBytesT.getD 8 .empty) (jMaxT.getD 8 0) (jRetT.getD 8 none)) := rfl
theorem jmk9 : jMOk 9 571 66 569 570 = true := by decide +kernel
set_option maxRecDepth 100000 in
theorem jcd9 : lw_tbl[571]? = some (Cond.code (jYT.getD 9 objectInit) (jBytesT.getD 9 .empty) (jMaxT.getD 9 0) (jRetT.getD 9 none)) := rfl
theorem jmk10 : jMOk 10 524 66 522 523 = true := by decide +kernel
set_option maxRecDepth 100000 in
theorem jcd10 : lw_tbl[524]? = some (Cond.code (jYT.getD 10 objectInit) (jBytesT.getD 10 .empty) (jMaxT.getD 10 0) (jRetT.getD 10 none)) := rfl
theorem jmk11 : jMOk 11 533 66 531 532 = true := by decide +kernel
set_option maxRecDepth 100000 in
theorem jcd11 : lw_tbl[533]? = some (Cond.code (jYT.getD 11 objectInit) (jBytesT.getD 11 .empty) (jMaxT.getD 11 0) (jRetT.getD 11 none)) := rfl
theorem jmk12 : jMOk 12 541 66 539 540 = true := by decide +kernel
set_option maxRecDepth 100000 in
theorem jcd12 : lw_tbl[541]? = some (Cond.code (jYT.getD 12 objectInit) (jBytesT.getD 12 .empty) (jMaxT.getD 12 0) (jRetT.getD 12 none)) := rfl
theorem jmk13 : jMOk 13 651 66 649 650 = true := by decide +kernel
set_option maxRecDepth 100000 in
theorem jcd13 : lw_tbl[651]? = some (Cond.code (jYT.getD 13 objectInit) (jBytesT.getD 13 .empty) (jMaxT.getD 13 0) (jRetT.getD 13 none)) := rfl
theorem jmk14 : jMOk 14 643 66 641 642 = true := by decide +kernel
set_option maxRecDepth 100000 in
theorem jcd14 : lw_tbl[643]? = some (Cond.code (jYT.getD 14 objectInit) (jBytesT.getD 14 .empty) (jMaxT.getD 14 0) (jRetT.getD 14 none)) := rfl
theorem jmk15 : jMOk 15 655 66 653 654 = true := by decide +kernel
set_option maxRecDepth 100000 in
theorem jcd15 : lw_tbl[655]? = some (Cond.code (jYT.getD 15 objectInit) (jBytesT.getD 15 .empty) (jMaxT.getD 15 0) (jRetT.getD 15 none)) := rfl
theorem jmk16 : jMOk 16 546 66 544 545 = true := by decide +kernel
set_option maxRecDepth 100000 in
theorem jcd16 : lw_tbl[546]? = some (Cond.code (jYT.getD 16 objectInit) (jBytesT.getD 16 .empty) (jMaxT.getD 16 0) (jRetT.getD 16 none)) := rfl
theorem jmk17 : jMOk 17 555 66 553 554 = true := by decide +kernel
set_option maxRecDepth 100000 in
theorem jcd17 : lw_tbl[555]? = some (Cond.code (jYT.getD 17 objectInit) (jBytesT.getD 17 .empty) (jMaxT.getD 17 0) (jRetT.getD 17 none)) := rfl
theorem jmk18 : jMOk 18 729 66 727 728 = true := by decide +kernel
set_option maxRecDepth 100000 in
theorem jcd18 : lw_tbl[729]? = some (Cond.code (jYT.getD 18 objectInit) (jBytesT.getD 18 .empty) (jMaxT.getD 18 0) (jRetT.getD 18 none)) := rfl
theorem jmk19 : jMOk 19 778 66 776 777 = true := by decide +kernel
set_option maxRecDepth 100000 in
theorem jcd19 : lw_tbl[778]? = some (Cond.code (jYT.getD 19 objectInit) (jBytesT.getD 19 .empty) (jMaxT.getD 19 0) (jRetT.getD 19 none)) := rfl
theorem jmk20 : jMOk 20 791 66 789 790 = true := by decide +kernel
set_option maxRecDepth 100000 in
theorem jcd20 : lw_tbl[791]? = some (Cond.code (jYT.getD 20 objectInit) (jBytesT.getD 20 .empty) (jMaxT.getD 20 0) (jRetT.getD 20 none)) := rfl
theorem jmk21 : jMOk 21 795 66 793 794 = true := by decide +kernel
set_option maxRecDepth 100000 in
theorem jcd21 : lw_tbl[795]? = some (Cond.code (jYT.getD 21 objectInit) (jBytesT.getD 21 .empty) (jMaxT.getD 21 0) (jRetT.getD 21 none)) := rfl
theorem jmk22 : jMOk 22 746 66 744 745 = true := by decide +kernel
set_option maxRecDepth 100000 in
theorem jcd22 : lw_tbl[746]? = some (Cond.code (jYT.getD 22 objectInit) (jBytesT.getD 22 .empty) (jMaxT.getD 22 0) (jRetT.getD 22 none)) := rfl
theorem jmk23 : jMOk 23 931 66 929 930 = true := by decide +kernel
set_option maxRecDepth 100000 in
theorem jcd23 : lw_tbl[931]? = some (Cond.code (jYT.getD 23 objectInit) (jBytesT.getD 23 .empty) (jMaxT.getD 23 0) (jRetT.getD 23 none)) := rfl
theorem jmk24 : jMOk 24 760 66 758 759 = true := by decide +kernel
set_option maxRecDepth 100000 in
theorem jcd24 : lw_tbl[760]? = some (Cond.code (jYT.getD 24 objectInit) (jBytesT.getD 24 .empty) (jMaxT.getD 24 0) (jRetT.getD 24 none)) := rfl
theorem jmk25 : jMOk 25 742 66 740 741 = true := by decide +kernel
set_option maxRecDepth 100000 in
theorem jcd25 : lw_tbl[742]? = some (Cond.code (jYT.getD 25 objectInit) (jBytesT.getD 25 .empty) (jMaxT.getD 25 0) (jRetT.getD 25 none)) := rfl
theorem jmk26 : jMOk 26 751 66 749 750 = true := by decide +kernel
set_option maxRecDepth 100000 in
theorem jcd26 : lw_tbl[751]? = some (Cond.code (jYT.getD 26 objectInit) (jBytesT.getD 26 .empty) (jMaxT.getD 26 0) (jRetT.getD 26 none)) := rfl
theorem jmk27 : jMOk 27 770 66 768 769 = true := by decide +kernel
set_option maxRecDepth 100000 in
theorem jcd27 : lw_tbl[770]? = some (Cond.code (jYT.getD 27 objectInit) (jBytesT.getD 27 .empty) (jMaxT.getD 27 0) (jRetT.getD 27 none)) := rfl
theorem jmk28 : jMOk 28 756 66 754 755 = true := by decide +kernel
set_option maxRecDepth 100000 in
theorem jcd28 : lw_tbl[756]? = some (Cond.code (jYT.getD 28 objectInit) (jBytesT.getD 28 .empty) (jMaxT.getD 28 0) (jRetT.getD 28 none)) := rfl
theorem jmk29 : jMOk 29 765 66 764 13 = true := by decide +kernel
set_option maxRecDepth 100000 in
theorem jcd29 : lw_tbl[765]? = some (Cond.code (jYT.getD 29 objectInit) (jBytesT.getD 29 .empty) (jMaxT.getD 29 0) (jRetT.getD 29 none)) := rfl
theorem jmk30 : jMOk 30 229 67 228 0 = true := by decide +kernel
set_option maxRecDepth 100000 in
theorem jcd30 : lw_tbl[229]? = some (Cond.code (jYT.getD 30 objectInit) (jBytesT.getD 30 .empty) (jMaxT.getD 30 0) (jRetT.getD 30 none)) := rfl
theorem jmk31 : jMOk 31 718 67 716 717 = true := by decide +kernel
set_option maxRecDepth 100000 in
theorem jcd31 : lw_tbl[718]? = some (Cond.code (jYT.getD 31 objectInit) (jBytesT.getD 31 .empty) (jMaxT.getD 31 0) (jRetT.getD 31 none)) := rfl
theorem jmk32 : jMOk 32 803 67 801 802 = true := by decide +kernel
set_option maxRecDepth 100000 in
theorem jcd32 : lw_tbl[803]? = some (Cond.code (jYT.getD 32 objectInit) (jBytesT.getD 32 .empty) (jMaxT.getD 32 0) (jRetT.getD 32 none)) := rfl
theorem jmk33 : jMOk 33 341 71 340 0 = true := by decide +kernel
set_option maxRecDepth 100000 in
theorem jcd33 : lw_tbl[341]? = some (Cond.code (jYT.getD 33 objectInit) (jBytesT.getD 33 .empty) (jMaxT.getD 33 0) (jRetT.getD 33 none)) := rfl
theorem jmk34 : jMOk 34 851 71 849 850 = true := by decide +kernel
set_option maxRecDepth 100000 in
theorem jcd34 : lw_tbl[851]? = some (Cond.code (jYT.getD 34 objectInit) (jBytesT.getD 34 .empty) (jMaxT.getD 34 0) (jRetT.getD 34 none)) := rfl
theorem jmk35 : jMOk 35 855 71 854 18 = true := by decide +kernel
set_option maxRecDepth 100000 in
theorem jcd35 : lw_tbl[855]? = some (Cond.code (jYT.getD 35 objectInit) (jBytesT.getD 35 .empty) (jMaxT.getD 35 0) (jRetT.getD 35 none)) := rfl
theorem jmk36 : jMOk 36 863 71 862 19 = true := by decide +kernel
set_option maxRecDepth 100000 in
theorem jcd36 : lw_tbl[863]? = some (Cond.code (jYT.getD 36 objectInit) (jBytesT.getD 36 .empty) (jMaxT.getD 36 0) (jRetT.getD 36 none)) := rfl
theorem jmk37 : jMOk 37 868 71 867 20 = true := by decide +kernel
set_option maxRecDepth 100000 in
theorem jcd37 : lw_tbl[868]? = some (Cond.code (jYT.getD 37 objectInit) (jBytesT.getD 37 .empty) (jMaxT.getD 37 0) (jRetT.getD 37 none)) := rfl
theorem jmk38 : jMOk 38 268 69 267 0 = true := by decide +kernel
set_option maxRecDepth 100000 in
theorem jcd38 : lw_tbl[268]? = some (Cond.code (jYT.getD 38 objectInit) (jBytesT.getD 38 .empty) (jMaxT.getD 38 0) (jRetT.getD 38 none)) := rfl
theorem jmk39 : jMOk 39 667 69 665 666 = true := by decide +kernel
set_option maxRecDepth 100000 in
theorem jcd39 : lw_tbl[667]? = some (Cond.code (jYT.getD 39 objectInit) (jBytesT.getD 39 .empty) (jMaxT.getD 39 0) (jRetT.getD 39 none)) := rfl
theorem jmk40 : jMOk 40 830 69 828 829 = true := by decide +kernel
set_option maxRecDepth 100000 in
theorem jcd40 : lw_tbl[830]? = some (Cond.code (jYT.getD 40 objectInit) (jBytesT.getD 40 .empty) (jMaxT.getD 40 0) (jRetT.getD 40 none)) := rfl
theorem jmk41 : jMOk 41 663 69 661 662 = true := by decide +kernel
set_option maxRecDepth 100000 in
theorem jcd41 : lw_tbl[663]? = some (Cond.code (jYT.getD 41 objectInit) (jBytesT.getD 41 .empty) (jMaxT.getD 41 0) (jRetT.getD 41 none)) := rfl
theorem jmk42 : jMOk 42 672 69 670 671 = true := by decide +kernel
set_option maxRecDepth 100000 in
theorem jcd42 : lw_tbl[672]? = some (Cond.code (jYT.getD 42 objectInit) (jBytesT.getD 42 .empty) (jMaxT.getD 42 0) (jRetT.getD 42 none)) := rfl
theorem jmk43 : jMOk 43 705 69 703 704 = true := by decide +kernel
set_option maxRecDepth 100000 in
theorem jcd43 : lw_tbl[705]? = some (Cond.code (jYT.getD 43 objectInit) (jBytesT.getD 43 .empty) (jMaxT.getD 43 0) (jRetT.getD 43 none)) := rfl
theorem jmk44 : jMOk 44 676 69 675 8 = true := by decide +kernel
set_option maxRecDepth 100000 in
theorem jcd44 : lw_tbl[676]? = some (Cond.code (jYT.getD 44 objectInit) (jBytesT.getD 44 .empty) (jMaxT.getD 44 0) (jRetT.getD 44 none)) := rfl
theorem jmk45 : jMOk 45 685 69 684 9 = true := by decide +kernel
set_option maxRecDepth 100000 in
theorem jcd45 : lw_tbl[685]? = some (Cond.code (jYT.getD 45 objectInit) (jBytesT.getD 45 .empty) (jMaxT.getD 45 0) (jRetT.getD 45 none)) := rfl
theorem jmk46 : jMOk 46 689 69 688 10 = true := by decide +kernel
set_option maxRecDepth 100000 in
theorem jcd46 : lw_tbl[689]? = some (Cond.code (jYT.getD 46 objectInit) (jBytesT.getD 46 .empty) (jMaxT.getD 46 0) (jRetT.getD 46 none)) := rfl
theorem jmk47 : jMOk 47 697 69 696 11 = true := by decide +kernel
set_option maxRecDepth 100000 in
theorem jcd47 : lw_tbl[697]? = some (Cond.code (jYT.getD 47 objectInit) (jBytesT.getD 47 .empty) (jMaxT.getD 47 0) (jRetT.getD 47 none)) := rfl
theorem jmk48 : jMOk 48 371 72 370 0 = true := by decide +kernel
set_option maxRecDepth 100000 in
theorem jcd48 : lw_tbl[371]? = some (Cond.code (jYT.getD 48 objectInit) (jBytesT.getD 48 .empty) (jMaxT.getD 48 0) (jRetT.getD 48 none)) := rfl
theorem jmk49 : jMOk 49 878 72 876 877 = true := by decide +kernel
set_option maxRecDepth 100000 in
theorem jcd49 : lw_tbl[878]? = some (Cond.code (jYT.getD 49 objectInit) (jBytesT.getD 49 .empty) (jMaxT.getD 49 0) (jRetT.getD 49 none)) := rfl
theorem jmk50 : jMOk 50 902 72 900 901 = true := by decide +kernel
set_option maxRecDepth 100000 in
theorem jcd50 : lw_tbl[902]? = some (Cond.code (jYT.getD 50 objectInit) (jBytesT.getD 50 .empty) (jMaxT.getD 50 0) (jRetT.getD 50 none)) := rfl
theorem jmk51 : jMOk 51 912 72 910 911 = true := by decide +kernel
set_option maxRecDepth 100000 in
theorem jcd51 : lw_tbl[912]? = some (Cond.code (jYT.getD 51 objectInit) (jBytesT.getD 51 .empty) (jMaxT.getD 51 0) (jRetT.getD 51 none)) := rfl
theorem jmk52 : jMOk 52 921 72 919 920 = true := by decide +kernel
set_option maxRecDepth 100000 in
theorem jcd52 : lw_tbl[921]? = some (Cond.code (jYT.getD 52 objectInit) (jBytesT.getD 52 .empty) (jMaxT.getD 52 0) (jRetT.getD 52 none)) := rfl
theorem jmk53 : jMOk 53 925 72 924 22 = true := by decide +kernel
set_option maxRecDepth 100000 in
theorem jcd53 : lw_tbl[925]? = some (Cond.code (jYT.getD 53 objectInit) (jBytesT.getD 53 .empty) (jMaxT.getD 53 0) (jRetT.getD 53 none)) := rfl
theorem jmk54 : jMOk 54 953 72 951 952 = true := by decide +kernel
set_option maxRecDepth 100000 in
theorem jcd54 : lw_tbl[953]? = some (Cond.code (jYT.getD 54 objectInit) (jBytesT.getD 54 .empty) (jMaxT.getD 54 0) (jRetT.getD 54 none)) := rfl
theorem jmk55 : jMOk 55 967 72 965 966 = true := by decide +kernel
set_option maxRecDepth 100000 in
theorem jcd55 : lw_tbl[967]? = some (Cond.code (jYT.getD 55 objectInit) (jBytesT.getD 55 .empty) (jMaxT.getD 55 0) (jRetT.getD 55 none)) := rfl
theorem jmk56 : jMOk 56 957 72 956 23 = true := by decide +kernel
set_option maxRecDepth 100000 in
theorem jcd56 : lw_tbl[957]? = some (Cond.code (jYT.getD 56 objectInit) (jBytesT.getD 56 .empty) (jMaxT.getD 56 0) (jRetT.getD 56 none)) := rfl
theorem jmk57 : jMOk 57 891 72 890 21 = true := by decide +kernel
set_option maxRecDepth 100000 in
theorem jcd57 : lw_tbl[891]? = some (Cond.code (jYT.getD 57 objectInit) (jBytesT.getD 57 .empty) (jMaxT.getD 57 0) (jRetT.getD 57 none)) := rfl
theorem jmk58 : jMOk 58 101 65 100 0 = true := by decide +kernel
set_option maxRecDepth 100000 in
theorem jcd58 : lw_tbl[101]? = some (Cond.code (jYT.getD 58 objectInit) (jBytesT.getD 58 .empty) (jMaxT.getD 58 0) (jRetT.getD 58 none)) := rfl
theorem jmk59 : jMOk 59 506 65 504 505 = true := by decide +kernel
set_option maxRecDepth 100000 in
theorem jcd59 : lw_tbl[506]? = some (Cond.code (jYT.getD 59 objectInit) (jBytesT.getD 59 .empty) (jMaxT.getD 59 0) (jRetT.getD 59 none)) := rfl
theorem jmk60 : jMOk 60 474 65 472 473 = true := by decide +kernel
set_option maxRecDepth 100000 in
theorem jcd60 : lw_tbl[474]? = some (Cond.code (jYT.getD 60 objectInit) (jBytesT.getD 60 .empty) (jMaxT.getD 60 0) (jRetT.getD 60 none)) := rfl
theorem jmk61 : jMOk 61 550 65 548 549 = true := by decide +kernel
set_option maxRecDepth 100000 in
theorem jcd61 : lw_tbl[550]? = some (Cond.code (jYT.getD 61 objectInit) (jBytesT.getD 61 .empty) (jMaxT.getD 61 0) (jRetT.getD 61 none)) := rfl
theorem jmk62 : jMOk 62 783 65 781 782 = true := by decide +kernel
set_option maxRecDepth 100000 in
theorem jcd62 : lw_tbl[783]? = some (Cond.code (jYT.getD 62 objectInit) (jBytesT.getD 62 .empty) (jMaxT.getD 62 0) (jRetT.getD 62 none)) := rfl
theorem jmk63 : jMOk 63 559 65 557 558 = true := by decide +kernel
set_option maxRecDepth 100000 in
theorem jcd63 : lw_tbl[559]? = some (Cond.code (jYT.getD 63 objectInit) (jBytesT.getD 63 .empty) (jMaxT.getD 63 0) (jRetT.getD 63 none)) := rfl
theorem jmk64 : jMOk 64 734 65 732 733 = true := by decide +kernel
set_option maxRecDepth 100000 in
theorem jcd64 : lw_tbl[734]? = some (Cond.code (jYT.getD 64 objectInit) (jBytesT.getD 64 .empty) (jMaxT.getD 64 0) (jRetT.getD 64 none)) := rfl
theorem jmk65 : jMOk 65 486 65 484 485 = true := by decide +kernel
set_option maxRecDepth 100000 in
theorem jcd65 : lw_tbl[486]? = some (Cond.code (jYT.getD 65 objectInit) (jBytesT.getD 65 .empty) (jMaxT.getD 65 0) (jRetT.getD 65 none)) := rfl
theorem jmk66 : jMOk 66 493 65 491 492 = true := by decide +kernel
set_option maxRecDepth 100000 in
theorem jcd66 : lw_tbl[493]? = some (Cond.code (jYT.getD 66 objectInit) (jBytesT.getD 66 .empty) (jMaxT.getD 66 0) (jRetT.getD 66 none)) := rfl
theorem jmk67 : jMOk 67 575 65 573 574 = true := by decide +kernel
set_option maxRecDepth 100000 in
theorem jcd67 : lw_tbl[575]? = some (Cond.code (jYT.getD 67 objectInit) (jBytesT.getD 67 .empty) (jMaxT.getD 67 0) (jRetT.getD 67 none)) := rfl
theorem jmk68 : jMOk 68 303 70 302 0 = true := by decide +kernel
set_option maxRecDepth 100000 in
theorem jcd68 : lw_tbl[303]? = some (Cond.code (jYT.getD 68 objectInit) (jBytesT.getD 68 .empty) (jMaxT.getD 68 0) (jRetT.getD 68 none)) := rfl
theorem jmk69 : jMOk 69 811 70 809 810 = true := by decide +kernel
set_option maxRecDepth 100000 in
theorem jcd69 : lw_tbl[811]? = some (Cond.code (jYT.getD 69 objectInit) (jBytesT.getD 69 .empty) (jMaxT.getD 69 0) (jRetT.getD 69 none)) := rfl
theorem jmk70 : jMOk 70 815 70 814 0 = true := by decide +kernel
set_option maxRecDepth 100000 in
theorem jcd70 : lw_tbl[815]? = some (Cond.code (jYT.getD 70 objectInit) (jBytesT.getD 70 .empty) (jMaxT.getD 70 0) (jRetT.getD 70 none)) := rfl
theorem jmk71 : jMOk 71 821 70 820 14 = true := by decide +kernel
set_option maxRecDepth 100000 in
theorem jcd71 : lw_tbl[821]? = some (Cond.code (jYT.getD 71 objectInit) (jBytesT.getD 71 .empty) (jMaxT.getD 71 0) (jRetT.getD 71 none)) := rfl
theorem jmk72 : jMOk 72 825 70 824 15 = true := by decide +kernel
set_option maxRecDepth 100000 in
theorem jcd72 : lw_tbl[825]? = some (Cond.code (jYT.getD 72 objectInit) (jBytesT.getD 72 .empty) (jMaxT.getD 72 0) (jRetT.getD 72 none)) := rfl
theorem jmk73 : jMOk 73 837 70 836 16 = true := by decide +kernel
set_option maxRecDepth 100000 in
theorem jcd73 : lw_tbl[837]? = some (Cond.code (jYT.getD 73 objectInit) (jBytesT.getD 73 .empty) (jMaxT.getD 73 0) (jRetT.getD 73 none)) := rfl
theorem jmk74 : jMOk 74 842 70 841 17 = true := by decide +kernel
set_option maxRecDepth 100000 in
theorem jcd74 : lw_tbl[842]? = some (Cond.code (jYT.getD 74 objectInit) (jBytesT.getD 74 .empty) (jMaxT.getD 74 0) (jRetT.getD 74 none)) := rfl
theorem jmk75 : jMOk 75 249 68 248 0 = true := by decide +kernel
set_option maxRecDepth 100000 in
theorem jcd75 : lw_tbl[249]? = some (Cond.code (jYT.getD 75 objectInit) (jBytesT.getD 75 .empty) (jMaxT.getD 75 0) (jRetT.getD 75 none)) := rfl
theorem jmk76 : jMOk 76 940 68 938 939 = true := by decide +kernel
set_option maxRecDepth 100000 in
theorem jcd76 : lw_tbl[940]? = some (Cond.code (jYT.getD 76 objectInit) (jBytesT.getD 76 .empty) (jMaxT.getD 76 0) (jRetT.getD 76 none)) := rfl
theorem jmk77 : jMOk 77 962 68 960 961 = true := by decide +kernel
set_option maxRecDepth 100000 in
theorem jcd77 : lw_tbl[962]? = some (Cond.code (jYT.getD 77 objectInit) (jBytesT.getD 77 .empty) (jMaxT.getD 77 0) (jRetT.getD 77 none)) := rfl
theorem jmk78 : jMOk 78 95 64 94 0 = true := by decide +kernel
set_option maxRecDepth 100000 in
theorem jcd78 : lw_tbl[95]? = some (Cond.code (jYT.getD 78 objectInit) (jBytesT.getD 78 .empty) (jMaxT.getD 78 0) (jRetT.getD 78 none)) := rfl
theorem jmk79 : jMOk 79 470 64 468 469 = true := by decide +kernel
set_option maxRecDepth 100000 in
theorem jcd79 : lw_tbl[470]? = some (Cond.code (jYT.getD 79 objectInit) (jBytesT.getD 79 .empty) (jMaxT.getD 79 0) (jRetT.getD 79 none)) := rfl
theorem jmk80 : jMOk 80 478 64 476 477 = true := by decide +kernel
set_option maxRecDepth 100000 in
theorem jcd80 : lw_tbl[478]? = some (Cond.code (jYT.getD 80 objectInit) (jBytesT.getD 80 .empty) (jMaxT.getD 80 0) (jRetT.getD 80 none)) := rfl
theorem jmk81 : jMOk 81 498 64 497 0 = true := by decide +kernel
set_option maxRecDepth 100000 in
theorem jcd81 : lw_tbl[498]? = some (Cond.code (jYT.getD 81 objectInit) (jBytesT.getD 81 .empty) (jMaxT.getD 81 0) (jRetT.getD 81 none)) := rfl
theorem jmk82 : jMOk 82 510 64 509 2 = true := by decide +kernel
set_option maxRecDepth 100000 in
theorem jcd82 : lw_tbl[510]? = some (Cond.code (jYT.getD 82 objectInit) (jBytesT.getD 82 .empty) (jMaxT.getD 82 0) (jRetT.getD 82 none)) := rfl
theorem jmk83 : jMOk 83 529 64 528 4 = true := by decide +kernel
set_option maxRecDepth 100000 in
theorem jcd83 : lw_tbl[529]? = some (Cond.code (jYT.getD 83 objectInit) (jBytesT.getD 83 .empty) (jMaxT.getD 83 0) (jRetT.getD 83 none)) := rfl
theorem jmk84 : jMOk 84 537 64 536 5 = true := by decide +kernel
set_option maxRecDepth 100000 in
theorem jcd84 : lw_tbl[537]? = some (Cond.code (jYT.getD 84 objectInit) (jBytesT.getD 84 .empty) (jMaxT.getD 84 0) (jRetT.getD 84 none)) := rfl
theorem jmk85 : jMOk 85 563 64 562 6 = true := by decide +kernel
set_option maxRecDepth 100000 in
theorem jcd85 : lw_tbl[563]? = some (Cond.code (jYT.getD 85 objectInit) (jBytesT.getD 85 .empty) (jMaxT.getD 85 0) (jRetT.getD 85 none)) := rfl
theorem jmk86 : jMOk 86 514 64 513 3 = true := by decide +kernel
set_option maxRecDepth 100000 in
theorem jcd86 : lw_tbl[514]? = some (Cond.code (jYT.getD 86 objectInit) (jBytesT.getD 86 .empty) (jMaxT.getD 86 0) (jRetT.getD 86 none)) := rfl
theorem jmk87 : jMOk 87 502 64 501 1 = true := by decide +kernel
set_option maxRecDepth 100000 in
theorem jcd87 : lw_tbl[502]? = some (Cond.code (jYT.getD 87 objectInit) (jBytesT.getD 87 .empty) (jMaxT.getD 87 0) (jRetT.getD 87 none)) := rfl
theorem jmk88 : jMOk 88 517 64 516 0 = true := by decide +kernel
set_option maxRecDepth 100000 in
theorem jcd88 : lw_tbl[517]? = some (Cond.code (jYT.getD 88 objectInit) (jBytesT.getD 88 .empty) (jMaxT.getD 88 0) (jRetT.getD 88 none)) := rfl
theorem jmk89 : jMOk 89 87 63 86 0 = true := by decide +kernel
set_option maxRecDepth 100000 in
theorem jcd89 : lw_tbl[87]? = some (Cond.code (jYT.getD 89 objectInit) (jBytesT.getD 89 .empty) (jMaxT.getD 89 0) (jRetT.getD 89 none)) := rfl
theorem jmk90 : jMOk 90 620 63 618 619 = true := by decide +kernel
set_option maxRecDepth 100000 in
theorem jcd90 : lw_tbl[620]? = some (Cond.code (jYT.getD 90 objectInit) (jBytesT.getD 90 .empty) (jMaxT.getD 90 0) (jRetT.getD 90 none)) := rfl
theorem jmk91 : jMOk 91 625 63 623 624 = true := by decide +kernel
set_option maxRecDepth 100000 in
theorem jcd91 : lw_tbl[625]? = some (Cond.code (jYT.getD 91 objectInit) (jBytesT.getD 91 .empty) (jMaxT.getD 91 0) (jRetT.getD 91 none)) := rfl
theorem jmk92 : jMOk 92 629 63 627 628 = true := by decide +kernel
set_option maxRecDepth 100000 in
theorem jcd92 : lw_tbl[629]? = some (Cond.code (jYT.getD 92 objectInit) (jBytesT.getD 92 .empty) (jMaxT.getD 92 0) (jRetT.getD 92 none)) := rfl
theorem jmk93 : jMOk 93 633 63 631 632 = true := by decide +kernel
set_option maxRecDepth 100000 in
theorem jcd93 : lw_tbl[633]? = some (Cond.code (jYT.getD 93 objectInit) (jBytesT.getD 93 .empty) (jMaxT.getD 93 0) (jRetT.getD 93 none)) := rfl
theorem jmk94 : jMOk 94 637 63 635 636 = true := by decide +kernel
set_option maxRecDepth 100000 in
theorem jcd94 : lw_tbl[637]? = some (Cond.code (jYT.getD 94 objectInit) (jBytesT.getD 94 .empty) (jMaxT.getD 94 0) (jRetT.getD 94 none)) := rfl
theorem jmk95 : jMOk 95 647 63 645 646 = true := by decide +kernel
set_option maxRecDepth 100000 in
theorem jcd95 : lw_tbl[647]? = some (Cond.code (jYT.getD 95 objectInit) (jBytesT.getD 95 .empty) (jMaxT.getD 95 0) (jRetT.getD 95 none)) := rfl
theorem jmk96 : jMOk 96 659 63 657 658 = true := by decide +kernel
set_option maxRecDepth 100000 in
theorem jcd96 : lw_tbl[659]? = some (Cond.code (jYT.getD 96 objectInit) (jBytesT.getD 96 .empty) (jMaxT.getD 96 0) (jRetT.getD 96 none)) := rfl
theorem jmk97 : jMOk 97 701 63 699 700 = true := by decide +kernel
set_option maxRecDepth 100000 in
theorem jcd97 : lw_tbl[701]? = some (Cond.code (jYT.getD 97 objectInit) (jBytesT.getD 97 .empty) (jMaxT.getD 97 0) (jRetT.getD 97 none)) := rfl
theorem jmk98 : jMOk 98 709 63 707 708 = true := by decide +kernel
set_option maxRecDepth 100000 in
theorem jcd98 : lw_tbl[709]? = some (Cond.code (jYT.getD 98 objectInit) (jBytesT.getD 98 .empty) (jMaxT.getD 98 0) (jRetT.getD 98 none)) := rfl
theorem jmk99 : jMOk 99 725 63 723 724 = true := by decide +kernel
set_option maxRecDepth 100000 in
theorem jcd99 : lw_tbl[725]? = some (Cond.code (jYT.getD 99 objectInit) (jBytesT.getD 99 .empty) (jMaxT.getD 99 0) (jRetT.getD 99 none)) := rfl
theorem jmk100 : jMOk 100 738 63 736 737 = true := by decide +kernel
set_option maxRecDepth 100000 in
theorem jcd100 : lw_tbl[738]? = some (Cond.code (jYT.getD 100 objectInit) (jBytesT.getD 100 .empty) (jMaxT.getD 100 0) (jRetT.getD 100 none)) := rfl
theorem jmk101 : jMOk 101 774 63 772 773 = true := by decide +kernel
set_option maxRecDepth 100000 in
theorem jcd101 : lw_tbl[774]? = some (Cond.code (jYT.getD 101 objectInit) (jBytesT.getD 101 .empty) (jMaxT.getD 101 0) (jRetT.getD 101 none)) := rfl
theorem jmk102 : jMOk 102 787 63 785 786 = true := by decide +kernel
set_option maxRecDepth 100000 in
theorem jcd102 : lw_tbl[787]? = some (Cond.code (jYT.getD 102 objectInit) (jBytesT.getD 102 .empty) (jMaxT.getD 102 0) (jRetT.getD 102 none)) := rfl
theorem jmk103 : jMOk 103 799 63 797 798 = true := by decide +kernel
set_option maxRecDepth 100000 in
theorem jcd103 : lw_tbl[799]? = some (Cond.code (jYT.getD 103 objectInit) (jBytesT.getD 103 .empty) (jMaxT.getD 103 0) (jRetT.getD 103 none)) := rfl
theorem jmk104 : jMOk 104 807 63 805 806 = true := by decide +kernel
set_option maxRecDepth 100000 in
theorem jcd104 : lw_tbl[807]? = some (Cond.code (jYT.getD 104 objectInit) (jBytesT.getD 104 .empty) (jMaxT.getD 104 0) (jRetT.getD 104 none)) := rfl
theorem jmk105 : jMOk 105 847 63 845 846 = true := by decide +kernel
set_option maxRecDepth 100000 in
theorem jcd105 : lw_tbl[847]? = some (Cond.code (jYT.getD 105 objectInit) (jBytesT.getD 105 .empty) (jMaxT.getD 105 0) (jRetT.getD 105 none)) := rfl
theorem jmk106 : jMOk 106 874 63 872 873 = true := by decide +kernel
set_option maxRecDepth 100000 in
theorem jcd106 : lw_tbl[874]? = some (Cond.code (jYT.getD 106 objectInit) (jBytesT.getD 106 .empty) (jMaxT.getD 106 0) (jRetT.getD 106 none)) := rfl
theorem jmk107 : jMOk 107 898 63 896 897 = true := by decide +kernel
set_option maxRecDepth 100000 in
theorem jcd107 : lw_tbl[898]? = some (Cond.code (jYT.getD 107 objectInit) (jBytesT.getD 107 .empty) (jMaxT.getD 107 0) (jRetT.getD 107 none)) := rfl
theorem jmk108 : jMOk 108 908 63 906 907 = true := by decide +kernel
set_option maxRecDepth 100000 in
theorem jcd108 : lw_tbl[908]? = some (Cond.code (jYT.getD 108 objectInit) (jBytesT.getD 108 .empty) (jMaxT.getD 108 0) (jRetT.getD 108 none)) := rfl
theorem jmk109 : jMOk 109 917 63 915 916 = true := by decide +kernel
set_option maxRecDepth 100000 in
theorem jcd109 : lw_tbl[917]? = some (Cond.code (jYT.getD 109 objectInit) (jBytesT.getD 109 .empty) (jMaxT.getD 109 0) (jRetT.getD 109 none)) := rfl
theorem jmk110 : jMOk 110 936 63 934 935 = true := by decide +kernel
set_option maxRecDepth 100000 in
theorem jcd110 : lw_tbl[936]? = some (Cond.code (jYT.getD 110 objectInit) (jBytesT.getD 110 .empty) (jMaxT.getD 110 0) (jRetT.getD 110 none)) := rfl
theorem jmk111 : jMOk 111 945 63 943 944 = true := by decide +kernel
set_option maxRecDepth 100000 in
theorem jcd111 : lw_tbl[945]? = some (Cond.code (jYT.getD 111 objectInit) (jBytesT.getD 111 .empty) (jMaxT.getD 111 0) (jRetT.getD 111 none)) := rfl
theorem jmk112 : jMOk 112 949 63 947 948 = true := by decide +kernel
set_option maxRecDepth 100000 in
theorem jcd112 : lw_tbl[949]? = some (Cond.code (jYT.getD 112 objectInit) (jBytesT.getD 112 .empty) (jMaxT.getD 112 0) (jRetT.getD 112 none)) := rfl
theorem jmk113 : jMOk 113 971 63 969 970 = true := by decide +kernel
set_option maxRecDepth 100000 in
theorem jcd113 : lw_tbl[971]? = some (Cond.code (jYT.getD 113 objectInit) (jBytesT.getD 113 .empty) (jMaxT.getD 113 0) (jRetT.getD 113 none)) := rfl
theorem jmk114 : jMOk 114 992 63 990 991 = true := by decide +kernel
set_option maxRecDepth 100000 in
theorem jcd114 : lw_tbl[992]? = some (Cond.code (jYT.getD 114 objectInit) (jBytesT.getD 114 .empty) (jMaxT.getD 114 0) (jRetT.getD 114 none)) := rfl
theorem jmk115 : jMOk 115 1017 63 1015 1016 = true := by decide +kernel
set_option maxRecDepth 100000 in
theorem jcd115 : lw_tbl[1017]? = some (Cond.code (jYT.getD 115 objectInit) (jBytesT.getD 115 .empty) (jMaxT.getD 115 0) (jRetT.getD 115 none)) := rfl
theorem jmk116 : jMOk 116 1021 63 1019 1020 = true := by decide +kernel
set_option maxRecDepth 100000 in
theorem jcd116 : lw_tbl[1021]? = some (Cond.code (jYT.getD 116 objectInit) (jBytesT.getD 116 .empty) (jMaxT.getD 116 0) (jRetT.getD 116 none)) := rfl
theorem jmk117 : jMOk 117 1025 63 1023 1024 = true := by decide +kernel
set_option maxRecDepth 100000 in
theorem jcd117 : lw_tbl[1025]? = some (Cond.code (jYT.getD 117 objectInit) (jBytesT.getD 117 .empty) (jMaxT.getD 117 0) (jRetT.getD 117 none)) := rfl
theorem jmk118 : jMOk 118 567 63 566 7 = true := by decide +kernel
set_option maxRecDepth 100000 in
theorem jcd118 : lw_tbl[567]? = some (Cond.code (jYT.getD 118 objectInit) (jBytesT.getD 118 .empty) (jMaxT.getD 118 0) (jRetT.getD 118 none)) := rfl
theorem jmk119 : jMOk 119 714 63 713 12 = true := by decide +kernel
set_option maxRecDepth 100000 in
theorem jcd119 : lw_tbl[714]? = some (Cond.code (jYT.getD 119 objectInit) (jBytesT.getD 119 .empty) (jMaxT.getD 119 0) (jRetT.getD 119 none)) := rfl
theorem jmk120 : jMOk 120 520 63 519 0 = true := by decide +kernel
set_option maxRecDepth 100000 in
theorem jcd120 : lw_tbl[520]? = some (Cond.code (jYT.getD 120 objectInit) (jBytesT.getD 120 .empty) (jMaxT.getD 120 0) (jRetT.getD 120 none)) := rfl
theorem jmk121 : jMOk 121 681 63 680 0 = true := by decide +kernel
set_option maxRecDepth 100000 in
theorem jcd121 : lw_tbl[681]? = some (Cond.code (jYT.getD 121 objectInit) (jBytesT.getD 121 .empty) (jMaxT.getD 121 0) (jRetT.getD 121 none)) := rfl
theorem jmk122 : jMOk 122 1031 81 1030 0 = true := by decide +kernel
set_option maxRecDepth 100000 in
theorem jcd122 : lw_tbl[1031]? = some (Cond.code (jYT.getD 122 objectInit) (jBytesT.getD 122 .empty) (jMaxT.getD 122 0) (jRetT.getD 122 none)) := rfl
theorem jmk123 : jMOk 123 1151 81 1150 0 = true := by decide +kernel
set_option maxRecDepth 100000 in
theorem jcd123 : lw_tbl[1151]? = some (Cond.code (jYT.getD 123 objectInit) (jBytesT.getD 123 .empty) (jMaxT.getD 123 0) (jRetT.getD 123 none)) := rfl
theorem jmk124 : jMOk 124 1148 81 1146 1147 = true := by decide +kernel
set_option maxRecDepth 100000 in
theorem jcd124 : lw_tbl[1148]? = some (Cond.code (jYT.getD 124 objectInit) (jBytesT.getD 124 .empty) (jMaxT.getD 124 0) (jRetT.getD 124 none)) := rfl
theorem jmk125 : jMOk 125 1155 81 1153 1154 = true := by decide +kernel
set_option maxRecDepth 100000 in
theorem jcd125 : lw_tbl[1155]? = some (Cond.code (jYT.getD 125 objectInit) (jBytesT.getD 125 .empty) (jMaxT.getD 125 0) (jRetT.getD 125 none)) := rfl
theorem jmk126 : jMOk 126 1171 81 1170 32 = true := by decide +kernel
set_option maxRecDepth 100000 in
theorem jcd126 : lw_tbl[1171]? = some (Cond.code (jYT.getD 126 objectInit) (jBytesT.getD 126 .empty) (jMaxT.getD 126 0) (jRetT.getD 126 none)) := rfl
theorem jmk127 : jMOk 127 1183 81 1182 35 = true := by decide +kernel
set_option maxRecDepth 100000 in
theorem jcd127 : lw_tbl[1183]? = some (Cond.code (jYT.getD 127 objectInit) (jBytesT.getD 127 .empty) (jMaxT.getD 127 0) (jRetT.getD 127 none)) := rfl
theorem jmk128 : jMOk 128 1187 81 1186 36 = true := by decide +kernel
set_option maxRecDepth 100000 in
theorem jcd128 : lw_tbl[1187]? = some (Cond.code (jYT.getD 128 objectInit) (jBytesT.getD 128 .empty) (jMaxT.getD 128 0) (jRetT.getD 128 none)) := rfl
theorem jmk129 : jMOk 129 1179 81 1178 34 = true := by decide +kernel
set_option maxRecDepth 100000 in
theorem jcd129 : lw_tbl[1179]? = some (Cond.code (jYT.getD 129 objectInit) (jBytesT.getD 129 .empty) (jMaxT.getD 129 0) (jRetT.getD 129 none)) := rfl
theorem jmk130 : jMOk 130 1175 81 1174 33 = true := by decide +kernel
set_option maxRecDepth 100000 in
theorem jcd130 : lw_tbl[1175]? = some (Cond.code (jYT.getD 130 objectInit) (jBytesT.getD 130 .empty) (jMaxT.getD 130 0) (jRetT.getD 130 none)) := rfl
theorem jmk131 : jMOk 131 1191 81 1190 37 = true := by decide +kernel
set_option maxRecDepth 100000 in
theorem jcd131 : lw_tbl[1191]? = some (Cond.code (jYT.getD 131 objectInit) (jBytesT.getD 131 .empty) (jMaxT.getD 131 0) (jRetT.getD 131 none)) := rfl
theorem jmk132 : jMOk 132 1195 81 1194 38 = true := by decide +kernel
set_option maxRecDepth 100000 in
theorem jcd132 : lw_tbl[1195]? = some (Cond.code (jYT.getD 132 objectInit) (jBytesT.getD 132 .empty) (jMaxT.getD 132 0) (jRetT.getD 132 none)) := rfl
theorem jmk133 : jMOk 133 1167 81 1166 31 = true := by decide +kernel
set_option maxRecDepth 100000 in
theorem jcd133 : lw_tbl[1167]? = some (Cond.code (jYT.getD 133 objectInit) (jBytesT.getD 133 .empty) (jMaxT.getD 133 0) (jRetT.getD 133 none)) := rfl
theorem jmk134 : jMOk 134 1163 81 1162 30 = true := by decide +kernel
set_option maxRecDepth 100000 in
theorem jcd134 : lw_tbl[1163]? = some (Cond.code (jYT.getD 134 objectInit) (jBytesT.getD 134 .empty) (jMaxT.getD 134 0) (jRetT.getD 134 none)) := rfl
theorem jmk135 : jMOk 135 1159 81 1157 1158 = true := by decide +kernel
set_option maxRecDepth 100000 in
theorem jcd135 : lw_tbl[1159]? = some (Cond.code (jYT.getD 135 objectInit) (jBytesT.getD 135 .empty) (jMaxT.getD 135 0) (jRetT.getD 135 none)) := rfl
theorem jmk136 : jMOk 136 1040 81 1039 26 = true := by decide +kernel
set_option maxRecDepth 100000 in
theorem jcd136 : lw_tbl[1040]? = some (Cond.code (jYT.getD 136 objectInit) (jBytesT.getD 136 .empty) (jMaxT.getD 136 0) (jRetT.getD 136 none)) := rfl
theorem jmk137 : jMOk 137 1044 81 1043 27 = true := by decide +kernel
set_option maxRecDepth 100000 in
theorem jcd137 : lw_tbl[1044]? = some (Cond.code (jYT.getD 137 objectInit) (jBytesT.getD 137 .empty) (jMaxT.getD 137 0) (jRetT.getD 137 none)) := rfl
theorem jmk138 : jMOk 138 1048 81 1047 28 = true := by decide +kernel
set_option maxRecDepth 100000 in
theorem jcd138 : lw_tbl[1048]? = some (Cond.code (jYT.getD 138 objectInit) (jBytesT.getD 138 .empty) (jMaxT.getD 138 0) (jRetT.getD 138 none)) := rfl
theorem jmk139 : jMOk 139 1036 81 1035 25 = true := by decide +kernel
set_option maxRecDepth 100000 in
theorem jcd139 : lw_tbl[1036]? = some (Cond.code (jYT.getD 139 objectInit) (jBytesT.getD 139 .empty) (jMaxT.getD 139 0) (jRetT.getD 139 none)) := rfl
theorem jmk140 : jMOk 140 1052 81 1051 29 = true := by decide +kernel
set_option maxRecDepth 100000 in
theorem jcd140 : lw_tbl[1052]? = some (Cond.code (jYT.getD 140 objectInit) (jBytesT.getD 140 .empty) (jMaxT.getD 140 0) (jRetT.getD 140 none)) := rfl
theorem jmk141 : jMOk 141 1199 81 1197 1198 = true := by decide +kernel
set_option maxRecDepth 100000 in
theorem jcd141 : lw_tbl[1199]? = some (Cond.code (jYT.getD 141 objectInit) (jBytesT.getD 141 .empty) (jMaxT.getD 141 0) (jRetT.getD 141 none)) := rfl
theorem jmk142 : jMOk 142 1322 81 1321 54 = true := by decide +kernel
set_option maxRecDepth 100000 in
theorem jcd142 : lw_tbl[1322]? = some (Cond.code (jYT.getD 142 objectInit) (jBytesT.getD 142 .empty) (jMaxT.getD 142 0) (jRetT.getD 142 none)) := rfl
theorem jmk143 : jMOk 143 1207 81 1206 39 = true := by decide +kernel
set_option maxRecDepth 100000 in
theorem jcd143 : lw_tbl[1207]? = some (Cond.code (jYT.getD 143 objectInit) (jBytesT.getD 143 .empty) (jMaxT.getD 143 0) (jRetT.getD 143 none)) := rfl
theorem jmk144 : jMOk 144 1218 81 1217 40 = true := by decide +kernel
set_option maxRecDepth 100000 in
theorem jcd144 : lw_tbl[1218]? = some (Cond.code (jYT.getD 144 objectInit) (jBytesT.getD 144 .empty) (jMaxT.getD 144 0) (jRetT.getD 144 none)) := rfl
theorem jmk145 : jMOk 145 1210 81 1209 0 = true := by decide +kernel
set_option maxRecDepth 100000 in
theorem jcd145 : lw_tbl[1210]? = some (Cond.code (jYT.getD 145 objectInit) (jBytesT.getD 145 .empty) (jMaxT.getD 145 0) (jRetT.getD 145 none)) := rfl
theorem jmk146 : jMOk 146 1222 81 1221 41 = true := by decide +kernel
set_option maxRecDepth 100000 in
theorem jcd146 : lw_tbl[1222]? = some (Cond.code (jYT.getD 146 objectInit) (jBytesT.getD 146 .empty) (jMaxT.getD 146 0) (jRetT.getD 146 none)) := rfl
theorem jmk147 : jMOk 147 1349 81 1348 0 = true := by decide +kernel
set_option maxRecDepth 100000 in
theorem jcd147 : lw_tbl[1349]? = some (Cond.code (jYT.getD 147 objectInit) (jBytesT.getD 147 .empty) (jMaxT.getD 147 0) (jRetT.getD 147 none)) := rfl
theorem jmk148 : jMOk 148 1284 81 1283 50 = true := by decide +kernel
set_option maxRecDepth 100000 in
theorem jcd148 : lw_tbl[1284]? = some (Cond.code (jYT.getD 148 objectInit) (jBytesT.getD 148 .empty) (jMaxT.getD 148 0) (jRetT.getD 148 none)) := rfl
theorem jmk149 : jMOk 149 1365 81 1364 59 = true := by decide +kernel
set_option maxRecDepth 100000 in
theorem jcd149 : lw_tbl[1365]? = some (Cond.code (jYT.getD 149 objectInit) (jBytesT.getD 149 .empty) (jMaxT.getD 149 0) (jRetT.getD 149 none)) := rfl
theorem jmk150 : jMOk 150 1242 81 1241 45 = true := by decide +kernel
set_option maxRecDepth 100000 in
theorem jcd150 : lw_tbl[1242]? = some (Cond.code (jYT.getD 150 objectInit) (jBytesT.getD 150 .empty) (jMaxT.getD 150 0) (jRetT.getD 150 none)) := rfl
theorem jmk151 : jMOk 151 1234 81 1233 43 = true := by decide +kernel
set_option maxRecDepth 100000 in
theorem jcd151 : lw_tbl[1234]? = some (Cond.code (jYT.getD 151 objectInit) (jBytesT.getD 151 .empty) (jMaxT.getD 151 0) (jRetT.getD 151 none)) := rfl
theorem jmk152 : jMOk 152 1246 81 1245 46 = true := by decide +kernel
set_option maxRecDepth 100000 in
theorem jcd152 : lw_tbl[1246]? = some (Cond.code (jYT.getD 152 objectInit) (jBytesT.getD 152 .empty) (jMaxT.getD 152 0) (jRetT.getD 152 none)) := rfl
theorem jmk153 : jMOk 153 1238 81 1237 44 = true := by decide +kernel
set_option maxRecDepth 100000 in
theorem jcd153 : lw_tbl[1238]? = some (Cond.code (jYT.getD 153 objectInit) (jBytesT.getD 153 .empty) (jMaxT.getD 153 0) (jRetT.getD 153 none)) := rfl
theorem jmk154 : jMOk 154 1230 81 1229 42 = true := by decide +kernel
set_option maxRecDepth 100000 in
theorem jcd154 : lw_tbl[1230]? = some (Cond.code (jYT.getD 154 objectInit) (jBytesT.getD 154 .empty) (jMaxT.getD 154 0) (jRetT.getD 154 none)) := rfl
theorem jmk155 : jMOk 155 1254 81 1253 47 = true := by decide +kernel
set_option maxRecDepth 100000 in
theorem jcd155 : lw_tbl[1254]? = some (Cond.code (jYT.getD 155 objectInit) (jBytesT.getD 155 .empty) (jMaxT.getD 155 0) (jRetT.getD 155 none)) := rfl
theorem jmk156 : jMOk 156 1292 81 1291 52 = true := by decide +kernel
set_option maxRecDepth 100000 in
theorem jcd156 : lw_tbl[1292]? = some (Cond.code (jYT.getD 156 objectInit) (jBytesT.getD 156 .empty) (jMaxT.getD 156 0) (jRetT.getD 156 none)) := rfl
theorem jmk157 : jMOk 157 1280 81 1279 49 = true := by decide +kernel
set_option maxRecDepth 100000 in
theorem jcd157 : lw_tbl[1280]? = some (Cond.code (jYT.getD 157 objectInit) (jBytesT.getD 157 .empty) (jMaxT.getD 157 0) (jRetT.getD 157 none)) := rfl
theorem jmk158 : jMOk 158 1288 81 1287 51 = true := by decide +kernel
set_option maxRecDepth 100000 in
theorem jcd158 : lw_tbl[1288]? = some (Cond.code (jYT.getD 158 objectInit) (jBytesT.getD 158 .empty) (jMaxT.getD 158 0) (jRetT.getD 158 none)) := rfl
theorem jmk159 : jMOk 159 1203 81 1201 1202 = true := by decide +kernel
set_option maxRecDepth 100000 in
theorem jcd159 : lw_tbl[1203]? = some (Cond.code (jYT.getD 159 objectInit) (jBytesT.getD 159 .empty) (jMaxT.getD 159 0) (jRetT.getD 159 none)) := rfl
theorem jmk160 : jMOk 160 1214 81 1212 1213 = true := by decide +kernel
set_option maxRecDepth 100000 in
theorem jcd160 : lw_tbl[1214]? = some (Cond.code (jYT.getD 160 objectInit) (jBytesT.getD 160 .empty) (jMaxT.getD 160 0) (jRetT.getD 160 none)) := rfl
theorem jmk161 : jMOk 161 1226 81 1224 1225 = true := by decide +kernel
set_option maxRecDepth 100000 in
theorem jcd161 : lw_tbl[1226]? = some (Cond.code (jYT.getD 161 objectInit) (jBytesT.getD 161 .empty) (jMaxT.getD 161 0) (jRetT.getD 161 none)) := rfl
theorem jmk162 : jMOk 162 1250 81 1248 1249 = true := by decide +kernel
set_option maxRecDepth 100000 in
theorem jcd162 : lw_tbl[1250]? = some (Cond.code (jYT.getD 162 objectInit) (jBytesT.getD 162 .empty) (jMaxT.getD 162 0) (jRetT.getD 162 none)) := rfl
theorem jmk163 : jMOk 163 1262 81 1261 48 = true := by decide +kernel
set_option maxRecDepth 100000 in
theorem jcd163 : lw_tbl[1262]? = some (Cond.code (jYT.getD 163 objectInit) (jBytesT.getD 163 .empty) (jMaxT.getD 163 0) (jRetT.getD 163 none)) := rfl
theorem jmk164 : jMOk 164 1265 81 1264 0 = true := by decide +kernel
set_option maxRecDepth 100000 in
theorem jcd164 : lw_tbl[1265]? = some (Cond.code (jYT.getD 164 objectInit) (jBytesT.getD 164 .empty) (jMaxT.getD 164 0) (jRetT.getD 164 none)) := rfl
theorem jmk165 : jMOk 165 1272 81 1271 0 = true := by decide +kernel
set_option maxRecDepth 100000 in
theorem jcd165 : lw_tbl[1272]? = some (Cond.code (jYT.getD 165 objectInit) (jBytesT.getD 165 .empty) (jMaxT.getD 165 0) (jRetT.getD 165 none)) := rfl
theorem jmk166 : jMOk 166 1300 81 1299 53 = true := by decide +kernel
set_option maxRecDepth 100000 in
theorem jcd166 : lw_tbl[1300]? = some (Cond.code (jYT.getD 166 objectInit) (jBytesT.getD 166 .empty) (jMaxT.getD 166 0) (jRetT.getD 166 none)) := rfl
theorem jmk167 : jMOk 167 1307 81 1306 0 = true := by decide +kernel
set_option maxRecDepth 100000 in
theorem jcd167 : lw_tbl[1307]? = some (Cond.code (jYT.getD 167 objectInit) (jBytesT.getD 167 .empty) (jMaxT.getD 167 0) (jRetT.getD 167 none)) := rfl
theorem jmk168 : jMOk 168 1310 81 1309 0 = true := by decide +kernel
set_option maxRecDepth 100000 in
theorem jcd168 : lw_tbl[1310]? = some (Cond.code (jYT.getD 168 objectInit) (jBytesT.getD 168 .empty) (jMaxT.getD 168 0) (jRetT.getD 168 none)) := rfl
theorem jmk169 : jMOk 169 1258 81 1256 1257 = true := by decide +kernel
set_option maxRecDepth 100000 in
theorem jcd169 : lw_tbl[1258]? = some (Cond.code (jYT.getD 169 objectInit) (jBytesT.getD 169 .empty) (jMaxT.getD 169 0) (jRetT.getD 169 none)) := rfl
theorem jmk170 : jMOk 170 1269 81 1267 1268 = true := by decide +kernel
set_option maxRecDepth 100000 in
theorem jcd170 : lw_tbl[1269]? = some (Cond.code (jYT.getD 170 objectInit) (jBytesT.getD 170 .empty) (jMaxT.getD 170 0) (jRetT.getD 170 none)) := rfl
theorem jmk171 : jMOk 171 1276 81 1274 1275 = true := by decide +kernel
set_option maxRecDepth 100000 in
theorem jcd171 : lw_tbl[1276]? = some (Cond.code (jYT.getD 171 objectInit) (jBytesT.getD 171 .empty) (jMaxT.getD 171 0) (jRetT.getD 171 none)) := rfl
theorem jmk172 : jMOk 172 1296 81 1294 1295 = true := by decide +kernel
set_option maxRecDepth 100000 in
theorem jcd172 : lw_tbl[1296]? = some (Cond.code (jYT.getD 172 objectInit) (jBytesT.getD 172 .empty) (jMaxT.getD 172 0) (jRetT.getD 172 none)) := rfl
theorem jmk173 : jMOk 173 1304 81 1302 1303 = true := by decide +kernel
set_option maxRecDepth 100000 in
theorem jcd173 : lw_tbl[1304]? = some (Cond.code (jYT.getD 173 objectInit) (jBytesT.getD 173 .empty) (jMaxT.getD 173 0) (jRetT.getD 173 none)) := rfl
theorem jmk174 : jMOk 174 1314 81 1312 1313 = true := by decide +kernel
set_option maxRecDepth 100000 in
theorem jcd174 : lw_tbl[1314]? = some (Cond.code (jYT.getD 174 objectInit) (jBytesT.getD 174 .empty) (jMaxT.getD 174 0) (jRetT.getD 174 none)) := rfl
theorem jmk175 : jMOk 175 1334 81 1333 57 = true := by decide +kernel
set_option maxRecDepth 100000 in
theorem jcd175 : lw_tbl[1334]? = some (Cond.code (jYT.getD 175 objectInit) (jBytesT.getD 175 .empty) (jMaxT.getD 175 0) (jRetT.getD 175 none)) := rfl
theorem jmk176 : jMOk 176 1330 81 1329 56 = true := by decide +kernel
set_option maxRecDepth 100000 in
theorem jcd176 : lw_tbl[1330]? = some (Cond.code (jYT.getD 176 objectInit) (jBytesT.getD 176 .empty) (jMaxT.getD 176 0) (jRetT.getD 176 none)) := rfl
theorem jmk177 : jMOk 177 1326 81 1325 55 = true := by decide +kernel
set_option maxRecDepth 100000 in
theorem jcd177 : lw_tbl[1326]? = some (Cond.code (jYT.getD 177 objectInit) (jBytesT.getD 177 .empty) (jMaxT.getD 177 0) (jRetT.getD 177 none)) := rfl
theorem jmk178 : jMOk 178 1318 81 1316 1317 = true := by decide +kernel
set_option maxRecDepth 100000 in
theorem jcd178 : lw_tbl[1318]? = some (Cond.code (jYT.getD 178 objectInit) (jBytesT.getD 178 .empty) (jMaxT.getD 178 0) (jRetT.getD 178 none)) := rfl
theorem jmk179 : jMOk 179 1342 81 1341 58 = true := by decide +kernel
set_option maxRecDepth 100000 in
theorem jcd179 : lw_tbl[1342]? = some (Cond.code (jYT.getD 179 objectInit) (jBytesT.getD 179 .empty) (jMaxT.getD 179 0) (jRetT.getD 179 none)) := rfl
theorem jmk180 : jMOk 180 1338 81 1336 1337 = true := by decide +kernel
set_option maxRecDepth 100000 in
theorem jcd180 : lw_tbl[1338]? = some (Cond.code (jYT.getD 180 objectInit) (jBytesT.getD 180 .empty) (jMaxT.getD 180 0) (jRetT.getD 180 none)) := rfl
theorem jmk181 : jMOk 181 1346 81 1344 1345 = true := by decide +kernel
set_option maxRecDepth 100000 in
theorem jcd181 : lw_tbl[1346]? = some (Cond.code (jYT.getD 181 objectInit) (jBytesT.getD 181 .empty) (jMaxT.getD 181 0) (jRetT.getD 181 none)) := rfl
theorem jmk182 : jMOk 182 1353 81 1351 1352 = true := by decide +kernel
set_option maxRecDepth 100000 in
theorem jcd182 : lw_tbl[1353]? = some (Cond.code (jYT.getD 182 objectInit) (jBytesT.getD 182 .empty) (jMaxT.getD 182 0) (jRetT.getD 182 none)) := rfl
theorem jmk183 : jMOk 183 1357 81 1355 1356 = true := by decide +kernel
set_option maxRecDepth 100000 in
theorem jcd183 : lw_tbl[1357]? = some (Cond.code (jYT.getD 183 objectInit) (jBytesT.getD 183 .empty) (jMaxT.getD 183 0) (jRetT.getD 183 none)) := rfl
theorem jmk184 : jMOk 184 1361 81 1359 1360 = true := by decide +kernel
set_option maxRecDepth 100000 in
theorem jcd184 : lw_tbl[1361]? = some (Cond.code (jYT.getD 184 objectInit) (jBytesT.getD 184 .empty) (jMaxT.getD 184 0) (jRetT.getD 184 none)) := rfl
theorem jmk185 : jMOk 185 1369 81 1367 1368 = true := by decide +kernel
set_option maxRecDepth 100000 in
theorem jcd185 : lw_tbl[1369]? = some (Cond.code (jYT.getD 185 objectInit) (jBytesT.getD 185 .empty) (jMaxT.getD 185 0) (jRetT.getD 185 none)) := rfl
theorem jmk186 : jMOk 186 1373 81 1371 1372 = true := by decide +kernel
set_option maxRecDepth 100000 in
theorem jcd186 : lw_tbl[1373]? = some (Cond.code (jYT.getD 186 objectInit) (jBytesT.getD 186 .empty) (jMaxT.getD 186 0) (jRetT.getD 186 none)) := rfl
theorem jmk187 : jMOk 187 1381 81 1380 60 = true := by decide +kernel
set_option maxRecDepth 100000 in
theorem jcd187 : lw_tbl[1381]? = some (Cond.code (jYT.getD 187 objectInit) (jBytesT.getD 187 .empty) (jMaxT.getD 187 0) (jRetT.getD 187 none)) := rfl
theorem jmk188 : jMOk 188 1377 81 1375 1376 = true := by decide +kernel
set_option maxRecDepth 100000 in
theorem jcd188 : lw_tbl[1377]? = some (Cond.code (jYT.getD 188 objectInit) (jBytesT.getD 188 .empty) (jMaxT.getD 188 0) (jRetT.getD 188 none)) := rfl
theorem jmk189 : jMOk 189 1385 81 1383 1384 = true := by decide +kernel
set_option maxRecDepth 100000 in
theorem jcd189 : lw_tbl[1385]? = some (Cond.code (jYT.getD 189 objectInit) (jBytesT.getD 189 .empty) (jMaxT.getD 189 0) (jRetT.getD 189 none)) := rfl
theorem jmk190 : jMOk 190 1396 81 1395 61 = true := by decide +kernel
set_option maxRecDepth 100000 in
theorem jcd190 : lw_tbl[1396]? = some (Cond.code (jYT.getD 190 objectInit) (jBytesT.getD 190 .empty) (jMaxT.getD 190 0) (jRetT.getD 190 none)) := rfl
theorem jmk191 : jMOk 191 1389 81 1387 1388 = true := by decide +kernel
set_option maxRecDepth 100000 in
theorem jcd191 : lw_tbl[1389]? = some (Cond.code (jYT.getD 191 objectInit) (jBytesT.getD 191 .empty) (jMaxT.getD 191 0) (jRetT.getD 191 none)) := rfl
theorem jmk192 : jMOk 192 1400 81 1398 1399 = true := by decide +kernel
set_option maxRecDepth 100000 in
theorem jcd192 : lw_tbl[1400]? = some (Cond.code (jYT.getD 192 objectInit) (jBytesT.getD 192 .empty) (jMaxT.getD 192 0) (jRetT.getD 192 none)) := rfl
theorem jmk193 : jMOk 193 1404 81 1402 1403 = true := by decide +kernel
set_option maxRecDepth 100000 in
theorem jcd193 : lw_tbl[1404]? = some (Cond.code (jYT.getD 193 objectInit) (jBytesT.getD 193 .empty) (jMaxT.getD 193 0) (jRetT.getD 193 none)) := rfl
theorem jmk194 : jMOk 194 1408 81 1406 1407 = true := by decide +kernel
set_option maxRecDepth 100000 in
theorem jcd194 : lw_tbl[1408]? = some (Cond.code (jYT.getD 194 objectInit) (jBytesT.getD 194 .empty) (jMaxT.getD 194 0) (jRetT.getD 194 none)) := rfl
theorem jmk195 : jMOk 195 881 82 880 0 = true := by decide +kernel
set_option maxRecDepth 100000 in
theorem jcd195 : lw_tbl[881]? = some (Cond.code (jYT.getD 195 objectInit) (jBytesT.getD 195 .empty) (jMaxT.getD 195 0) (jRetT.getD 195 none)) := rfl
theorem jmk196 : jMOk 196 489 78 488 0 = true := by decide +kernel
set_option maxRecDepth 100000 in
theorem jcd196 : lw_tbl[489]? = some (Cond.code (jYT.getD 196 objectInit) (jBytesT.getD 196 .empty) (jMaxT.getD 196 0) (jRetT.getD 196 none)) := rfl
theorem jMC_ok : ∀ m, m < 197 → ∃ a b c d, jMOk m a b c d = true ∧ lw_tbl[a]? = some (Cond.code (jYT.getD m objectInit) (jBytesT.getD m .empty) (jMaxT.getD m 0) (jRetT.getD m none))
  | 0, _ => ⟨396, 73, 395, 0, jmk0, jcd0⟩
  | 1, _ => ⟨975, 73, 973, 974, jmk1, jcd1⟩
  | 2, _ => ⟨982, 73, 981, 0, jmk2, jcd2⟩
  | 3, _ => ⟨978, 73, 977, 0, jmk3, jcd3⟩
  | 4, _ => ⟨988, 73, 987, 0, jmk4, jcd4⟩
  | 5, _ => ⟨996, 73, 994, 995, jmk5, jcd5⟩
  | 6, _ => ⟨1004, 73, 1003, 24, jmk6, jcd6⟩
  | 7, _ => ⟨112, 66, 111, 0, jmk7, jcd7⟩
  | 8, _ => ⟨482, 66, 480, 481, jmk8, jcd8⟩
  | 9, _ => ⟨571, 66, 569, 570, jmk9, jcd9⟩
  | 10, _ => ⟨524, 66, 522, 523, jmk10, jcd10⟩
  | 11, _ => ⟨533, 66, 531, 532, jmk11, jcd11⟩
  | 12, _ => ⟨541, 66, 539, 540, jmk12, jcd12⟩
  | 13, _ => ⟨651, 66, 649, 650, jmk13, jcd13⟩
  | 14, _ => ⟨643, 66, 641, 642, jmk14, jcd14⟩
  | 15, _ => ⟨655, 66, 653, 654, jmk15, jcd15⟩
  | 16, _ => ⟨546, 66, 544, 545, jmk16, jcd16⟩
  | 17, _ => ⟨555, 66, 553, 554, jmk17, jcd17⟩
  | 18, _ => ⟨729, 66, 727, 728, jmk18, jcd18⟩
  | 19, _ => ⟨778, 66, 776, 777, jmk19, jcd19⟩
  | 20, _ => ⟨791, 66, 789, 790, jmk20, jcd20⟩
  | 21, _ => ⟨795, 66, 793, 794, jmk21, jcd21⟩
  | 22, _ => ⟨746, 66, 744, 745, jmk22, jcd22⟩
  | 23, _ => ⟨931, 66, 929, 930, jmk23, jcd23⟩
  | 24, _ => ⟨760, 66, 758, 759, jmk24, jcd24⟩
  | 25, _ => ⟨742, 66, 740, 741, jmk25, jcd25⟩
  | 26, _ => ⟨751, 66, 749, 750, jmk26, jcd26⟩
  | 27, _ => ⟨770, 66, 768, 769, jmk27, jcd27⟩
  | 28, _ => ⟨756, 66, 754, 755, jmk28, jcd28⟩
  | 29, _ => ⟨765, 66, 764, 13, jmk29, jcd29⟩
  | 30, _ => ⟨229, 67, 228, 0, jmk30, jcd30⟩
  | 31, _ => ⟨718, 67, 716, 717, jmk31, jcd31⟩
  | 32, _ => ⟨803, 67, 801, 802, jmk32, jcd32⟩
  | 33, _ => ⟨341, 71, 340, 0, jmk33, jcd33⟩
  | 34, _ => ⟨851, 71, 849, 850, jmk34, jcd34⟩
  | 35, _ => ⟨855, 71, 854, 18, jmk35, jcd35⟩
  | 36, _ => ⟨863, 71, 862, 19, jmk36, jcd36⟩
  | 37, _ => ⟨868, 71, 867, 20, jmk37, jcd37⟩
  | 38, _ => ⟨268, 69, 267, 0, jmk38, jcd38⟩
  | 39, _ => ⟨667, 69, 665, 666, jmk39, jcd39⟩
  | 40, _ => ⟨830, 69, 828, 829, jmk40, jcd40⟩
  | 41, _ => ⟨663, 69, 661, 662, jmk41, jcd41⟩
  | 42, _ => ⟨672, 69, 670, 671, jmk42, jcd42⟩
  | 43, _ => ⟨705, 69, 703, 704, jmk43, jcd43⟩
  | 44, _ => ⟨676, 69, 675, 8, jmk44, jcd44⟩
  | 45, _ => ⟨685, 69, 684, 9, jmk45, jcd45⟩
  | 46, _ => ⟨689, 69, 688, 10, jmk46, jcd46⟩
  | 47, _ => ⟨697, 69, 696, 11, jmk47, jcd47⟩
  | 48, _ => ⟨371, 72, 370, 0, jmk48, jcd48⟩
  | 49, _ => ⟨878, 72, 876, 877, jmk49, jcd49⟩
  | 50, _ => ⟨902, 72, 900, 901, jmk50, jcd50⟩
  | 51, _ => ⟨912, 72, 910, 911, jmk51, jcd51⟩
  | 52, _ => ⟨921, 72, 919, 920, jmk52, jcd52⟩
  | 53, _ => ⟨925, 72, 924, 22, jmk53, jcd53⟩
  | 54, _ => ⟨953, 72, 951, 952, jmk54, jcd54⟩
  | 55, _ => ⟨967, 72, 965, 966, jmk55, jcd55⟩
  | 56, _ => ⟨957, 72, 956, 23, jmk56, jcd56⟩
  | 57, _ => ⟨891, 72, 890, 21, jmk57, jcd57⟩
  | 58, _ => ⟨101, 65, 100, 0, jmk58, jcd58⟩
  | 59, _ => ⟨506, 65, 504, 505, jmk59, jcd59⟩
  | 60, _ => ⟨474, 65, 472, 473, jmk60, jcd60⟩
  | 61, _ => ⟨550, 65, 548, 549, jmk61, jcd61⟩
  | 62, _ => ⟨783, 65, 781, 782, jmk62, jcd62⟩
  | 63, _ => ⟨559, 65, 557, 558, jmk63, jcd63⟩
  | 64, _ => ⟨734, 65, 732, 733, jmk64, jcd64⟩
  | 65, _ => ⟨486, 65, 484, 485, jmk65, jcd65⟩
  | 66, _ => ⟨493, 65, 491, 492, jmk66, jcd66⟩
  | 67, _ => ⟨575, 65, 573, 574, jmk67, jcd67⟩
  | 68, _ => ⟨303, 70, 302, 0, jmk68, jcd68⟩
  | 69, _ => ⟨811, 70, 809, 810, jmk69, jcd69⟩
  | 70, _ => ⟨815, 70, 814, 0, jmk70, jcd70⟩
  | 71, _ => ⟨821, 70, 820, 14, jmk71, jcd71⟩
  | 72, _ => ⟨825, 70, 824, 15, jmk72, jcd72⟩
  | 73, _ => ⟨837, 70, 836, 16, jmk73, jcd73⟩
  | 74, _ => ⟨842, 70, 841, 17, jmk74, jcd74⟩
  | 75, _ => ⟨249, 68, 248, 0, jmk75, jcd75⟩
  | 76, _ => ⟨940, 68, 938, 939, jmk76, jcd76⟩
  | 77, _ => ⟨962, 68, 960, 961, jmk77, jcd77⟩
  | 78, _ => ⟨95, 64, 94, 0, jmk78, jcd78⟩
  | 79, _ => ⟨470, 64, 468, 469, jmk79, jcd79⟩
  | 80, _ => ⟨478, 64, 476, 477, jmk80, jcd80⟩
  | 81, _ => ⟨498, 64, 497, 0, jmk81, jcd81⟩
  | 82, _ => ⟨510, 64, 509, 2, jmk82, jcd82⟩
  | 83, _ => ⟨529, 64, 528, 4, jmk83, jcd83⟩
  | 84, _ => ⟨537, 64, 536, 5, jmk84, jcd84⟩
  | 85, _ => ⟨563, 64, 562, 6, jmk85, jcd85⟩
  | 86, _ => ⟨514, 64, 513, 3, jmk86, jcd86⟩
  | 87, _ => ⟨502, 64, 501, 1, jmk87, jcd87⟩
  | 88, _ => ⟨517, 64, 516, 0, jmk88, jcd88⟩
  | 89, _ => ⟨87, 63, 86, 0, jmk89, jcd89⟩
  | 90, _ => ⟨620, 63, 618, 619, jmk90, jcd90⟩
  | 91, _ => ⟨625, 63, 623, 624, jmk91, jcd91⟩
  | 92, _ => ⟨629, 63, 627, 628, jmk92, jcd92⟩
  | 93, _ => ⟨633, 63, 631, 632, jmk93, jcd93⟩
  | 94, _ => ⟨637, 63, 635, 636, jmk94, jcd94⟩
  | 95, _ => ⟨647, 63, 645, 646, jmk95, jcd95⟩
  | 96, _ => ⟨659, 63, 657, 658, jmk96, jcd96⟩
  | 97, _ => ⟨701, 63, 699, 700, jmk97, jcd97⟩
  | 98, _ => ⟨709, 63, 707, 708, jmk98, jcd98⟩
  | 99, _ => ⟨725, 63, 723, 724, jmk99, jcd99⟩
  | 100, _ => ⟨738, 63, 736, 737, jmk100, jcd100⟩
  | 101, _ => ⟨774, 63, 772, 773, jmk101, jcd101⟩
  | 102, _ => ⟨787, 63, 785, 786, jmk102, jcd102⟩
  | 103, _ => ⟨799, 63, 797, 798, jmk103, jcd103⟩
  | 104, _ => ⟨807, 63, 805, 806, jmk104, jcd104⟩
  | 105, _ => ⟨847, 63, 845, 846, jmk105, jcd105⟩
  | 106, _ => ⟨874, 63, 872, 873, jmk106, jcd106⟩
  | 107, _ => ⟨898, 63, 896, 897, jmk107, jcd107⟩
  | 108, _ => ⟨908, 63, 906, 907, jmk108, jcd108⟩
  | 109, _ => ⟨917, 63, 915, 916, jmk109, jcd109⟩
  | 110, _ => ⟨936, 63, 934, 935, jmk110, jcd110⟩
  | 111, _ => ⟨945, 63, 943, 944, jmk111, jcd111⟩
  | 112, _ => ⟨949, 63, 947, 948, jmk112, jcd112⟩
  | 113, _ => ⟨971, 63, 969, 970, jmk113, jcd113⟩
  | 114, _ => ⟨992, 63, 990, 991, jmk114, jcd114⟩
  | 115, _ => ⟨1017, 63, 1015, 1016, jmk115, jcd115⟩
  | 116, _ => ⟨1021, 63, 1019, 1020, jmk116, jcd116⟩
  | 117, _ => ⟨1025, 63, 1023, 1024, jmk117, jcd117⟩
  | 118, _ => ⟨567, 63, 566, 7, jmk118, jcd118⟩
  | 119, _ => ⟨714, 63, 713, 12, jmk119, jcd119⟩
  | 120, _ => ⟨520, 63, 519, 0, jmk120, jcd120⟩
  | 121, _ => ⟨681, 63, 680, 0, jmk121, jcd121⟩
  | 122, _ => ⟨1031, 81, 1030, 0, jmk122, jcd122⟩
  | 123, _ => ⟨1151, 81, 1150, 0, jmk123, jcd123⟩
  | 124, _ => ⟨1148, 81, 1146, 1147, jmk124, jcd124⟩
  | 125, _ => ⟨1155, 81, 1153, 1154, jmk125, jcd125⟩
  | 126, _ => ⟨1171, 81, 1170, 32, jmk126, jcd126⟩
  | 127, _ => ⟨1183, 81, 1182, 35, jmk127, jcd127⟩
  | 128, _ => ⟨1187, 81, 1186, 36, jmk128, jcd128⟩
  | 129, _ => ⟨1179, 81, 1178, 34, jmk129, jcd129⟩
  | 130, _ => ⟨1175, 81, 1174, 33, jmk130, jcd130⟩
  | 131, _ => ⟨1191, 81, 1190, 37, jmk131, jcd131⟩
  | 132, _ => ⟨1195, 81, 1194, 38, jmk132, jcd132⟩
  | 133, _ => ⟨1167, 81, 1166, 31, jmk133, jcd133⟩
  | 134, _ => ⟨1163, 81, 1162, 30, jmk134, jcd134⟩
  | 135, _ => ⟨1159, 81, 1157, 1158, jmk135, jcd135⟩
  | 136, _ => ⟨1040, 81, 1039, 26, jmk136, jcd136⟩
  | 137, _ => ⟨1044, 81, 1043, 27, jmk137, jcd137⟩
  | 138, _ => ⟨1048, 81, 1047, 28, jmk138, jcd138⟩
  | 139, _ => ⟨1036, 81, 1035, 25, jmk139, jcd139⟩
  | 140, _ => ⟨1052, 81, 1051, 29, jmk140, jcd140⟩
  | 141, _ => ⟨1199, 81, 1197, 1198, jmk141, jcd141⟩
  | 142, _ => ⟨1322, 81, 1321, 54, jmk142, jcd142⟩
  | 143, _ => ⟨1207, 81, 1206, 39, jmk143, jcd143⟩
  | 144, _ => ⟨1218, 81, 1217, 40, jmk144, jcd144⟩
  | 145, _ => ⟨1210, 81, 1209, 0, jmk145, jcd145⟩
  | 146, _ => ⟨1222, 81, 1221, 41, jmk146, jcd146⟩
  | 147, _ => ⟨1349, 81, 1348, 0, jmk147, jcd147⟩
  | 148, _ => ⟨1284, 81, 1283, 50, jmk148, jcd148⟩
  | 149, _ => ⟨1365, 81, 1364, 59, jmk149, jcd149⟩
  | 150, _ => ⟨1242, 81, 1241, 45, jmk150, jcd150⟩
  | 151, _ => ⟨1234, 81, 1233, 43, jmk151, jcd151⟩
  | 152, _ => ⟨1246, 81, 1245, 46, jmk152, jcd152⟩
  | 153, _ => ⟨1238, 81, 1237, 44, jmk153, jcd153⟩
  | 154, _ => ⟨1230, 81, 1229, 42, jmk154, jcd154⟩
  | 155, _ => ⟨1254, 81, 1253, 47, jmk155, jcd155⟩
  | 156, _ => ⟨1292, 81, 1291, 52, jmk156, jcd156⟩
  | 157, _ => ⟨1280, 81, 1279, 49, jmk157, jcd157⟩
  | 158, _ => ⟨1288, 81, 1287, 51, jmk158, jcd158⟩
  | 159, _ => ⟨1203, 81, 1201, 1202, jmk159, jcd159⟩
  | 160, _ => ⟨1214, 81, 1212, 1213, jmk160, jcd160⟩
  | 161, _ => ⟨1226, 81, 1224, 1225, jmk161, jcd161⟩
  | 162, _ => ⟨1250, 81, 1248, 1249, jmk162, jcd162⟩
  | 163, _ => ⟨1262, 81, 1261, 48, jmk163, jcd163⟩
  | 164, _ => ⟨1265, 81, 1264, 0, jmk164, jcd164⟩
  | 165, _ => ⟨1272, 81, 1271, 0, jmk165, jcd165⟩
  | 166, _ => ⟨1300, 81, 1299, 53, jmk166, jcd166⟩
  | 167, _ => ⟨1307, 81, 1306, 0, jmk167, jcd167⟩
  | 168, _ => ⟨1310, 81, 1309, 0, jmk168, jcd168⟩
  | 169, _ => ⟨1258, 81, 1256, 1257, jmk169, jcd169⟩
  | 170, _ => ⟨1269, 81, 1267, 1268, jmk170, jcd170⟩
  | 171, _ => ⟨1276, 81, 1274, 1275, jmk171, jcd171⟩
  | 172, _ => ⟨1296, 81, 1294, 1295, jmk172, jcd172⟩
  | 173, _ => ⟨1304, 81, 1302, 1303, jmk173, jcd173⟩
  | 174, _ => ⟨1314, 81, 1312, 1313, jmk174, jcd174⟩
  | 175, _ => ⟨1334, 81, 1333, 57, jmk175, jcd175⟩
  | 176, _ => ⟨1330, 81, 1329, 56, jmk176, jcd176⟩
  | 177, _ => ⟨1326, 81, 1325, 55, jmk177, jcd177⟩
  | 178, _ => ⟨1318, 81, 1316, 1317, jmk178, jcd178⟩
  | 179, _ => ⟨1342, 81, 1341, 58, jmk179, jcd179⟩
  | 180, _ => ⟨1338, 81, 1336, 1337, jmk180, jcd180⟩
  | 181, _ => ⟨1346, 81, 1344, 1345, jmk181, jcd181⟩
  | 182, _ => ⟨1353, 81, 1351, 1352, jmk182, jcd182⟩
  | 183, _ => ⟨1357, 81, 1355, 1356, jmk183, jcd183⟩
  | 184, _ => ⟨1361, 81, 1359, 1360, jmk184, jcd184⟩
  | 185, _ => ⟨1369, 81, 1367, 1368, jmk185, jcd185⟩
  | 186, _ => ⟨1373, 81, 1371, 1372, jmk186, jcd186⟩
  | 187, _ => ⟨1381, 81, 1380, 60, jmk187, jcd187⟩
  | 188, _ => ⟨1377, 81, 1375, 1376, jmk188, jcd188⟩
  | 189, _ => ⟨1385, 81, 1383, 1384, jmk189, jcd189⟩
  | 190, _ => ⟨1396, 81, 1395, 61, jmk190, jcd190⟩
  | 191, _ => ⟨1389, 81, 1387, 1388, jmk191, jcd191⟩
  | 192, _ => ⟨1400, 81, 1398, 1399, jmk192, jcd192⟩
  | 193, _ => ⟨1404, 81, 1402, 1403, jmk193, jcd193⟩
  | 194, _ => ⟨1408, 81, 1406, 1407, jmk194, jcd194⟩
  | 195, _ => ⟨881, 82, 880, 0, jmk195, jcd195⟩
  | 196, _ => ⟨489, 78, 488, 0, jmk196, jcd196⟩
  | n + 197, h => absurd h (by omega)
def jLnkOk (own i m p : Nat) (nest : Bool) : Bool := (if Nat.ble 900 m then (if m == 900 then jAt p (.methodLink (jC own) i arraycopyName) else if m == 903 then jAt p (.methodLink (jC own) i Lib.Math.max.name) else if m == 904 then jAt p (.methodLink (jC own) i Lib.Math.min.name) else true) else (Nat.blt m 197 || m == 198) && (if nest then jAtN p (.methodLinkNest (jC own) i (jYT.getD m objectInit) "PlayedLaws") else jAt p (.methodLink (jC own) i (jYT.getD m objectInit))))
def jLnkC : List ((Nat × (Nat × Nat)) × (Nat × Bool)) := [((0, (3, 198)), (397, false)), ((0, (11, 7)), (337, true)), ((0, (20, 38)), (339, true)), ((0, (35, 3)), (976, false)), ((0, (39, 2)), (980, false)), ((0, (43, 41)), (984, false)), ((0, (47, 43)), (985, false)), ((0, (51, 4)), (986, false)), ((0, (55, 121)), (921, true)), ((0, (63, 59)), (979, false)), ((0, (69, 9)), (997, false)), ((0, (79, 6)), (1001, false)), ((0, (86, 16)), (1005, false)), ((0, (93, 17)), (1006, false)), ((0, (97, 18)), (1007, false)), ((0, (100, 19)), (1008, false)), ((0, (103, 20)), (1009, false)), ((0, (106, 21)), (1010, false)), ((0, (109, 25)), (1011, false)), ((0, (113, 26)), (1012, false)), ((1, (3, 198)), (113, false)), ((1, (11, 58)), (115, false)), ((1, (47, 65)), (483, false)), ((1, (50, 66)), (490, false)), ((1, (72, 67)), (572, false)), ((1, (76, 60)), (525, false)), ((1, (80, 120)), (480, true)), ((1, (84, 61)), (547, false)), ((1, (88, 63)), (556, false)), ((1, (92, 14)), (730, false)), ((1, (96, 64)), (731, false)), ((1, (99, 15)), (779, false)), ((1, (102, 62)), (780, false)), ((1, (105, 59)), (747, false)), ((1, (108, 195)), (932, false)), ((1, (113, 22)), (743, false)), ((1, (117, 43)), (752, false)), ((1, (123, 28)), (753, false)), ((1, (130, 904)), (766, false)), ((1, (135, 27)), (767, false)), ((1, (138, 24)), (757, false)), ((1, (144, 121)), (699, true)), ((1, (148, 29)), (762, false)), ((2, (1, 198)), (230, false)), ((2, (15, 7)), (171, true)), ((2, (20, 9)), (719, false)), ((2, (27, 904)), (720, false)), ((3, (3, 198)), (342, false)), ((3, (11, 7)), (282, true)), ((3, (20, 38)), (284, true)), ((3, (27, 58)), (348, false)), ((3, (38, 35)), (852, false)), ((3, (42, 9)), (856, false)), ((3, (49, 66)), (859, false)), ((3, (55, 36)), (860, false)), ((3, (58, 37)), (865, false)), ((3, (65, 60)), (857, false)), ((3, (69, 41)), (858, false)), ((3, (76, 67)), (864, false)), ((3, (79, 59)), (869, false)), ((3, (83, 62)), (870, false)), ((4, (3, 198)), (269, false)), ((4, (11, 58)), (271, false)), ((4, (32, 65)), (668, false)), ((4, (39, 67)), (831, false)), ((4, (43, 39)), (664, false)), ((4, (51, 42)), (669, false)), ((4, (55, 44)), (673, false)), ((4, (65, 59)), (677, false)), ((4, (69, 121)), (617, true)), ((4, (73, 45)), (682, false)), ((4, (79, 46)), (686, false)), ((4, (82, 47)), (694, false)), ((4, (86, 60)), (678, false)), ((4, (102, 903)), (690, false)), ((4, (111, 904)), (693, false)), ((5, (3, 198)), (372, false)), ((5, (11, 7)), (312, true)), ((5, (20, 38)), (314, true)), ((5, (29, 195)), (879, false)), ((5, (35, 9)), (885, false)), ((5, (39, 121)), (824, true)), ((5, (47, 60)), (887, false)), ((5, (53, 57)), (888, false)), ((5, (60, 16)), (903, false)), ((5, (64, 18)), (904, false)), ((5, (68, 27)), (913, false)), ((5, (80, 53)), (922, false)), ((5, (84, 17)), (926, false)), ((5, (87, 41)), (892, false)), ((5, (91, 43)), (893, false)), ((5, (95, 28)), (927, false)), ((5, (99, 23)), (928, false)), ((5, (106, 56)), (954, false)), ((5, (116, 59)), (958, false)), ((5, (119, 77)), (959, false)), ((6, (3, 198)), (102, false)), ((6, (15, 59)), (551, false)), ((6, (19, 60)), (494, false)), ((6, (23, 196)), (487, false)), ((6, (29, 904)), (576, false)), ((6, (35, 900)), (579, false)), ((7, (3, 198)), (304, false)), ((7, (11, 7)), (244, true)), ((7, (26, 58)), (310, false)), ((7, (37, 38)), (249, true)), ((7, (41, 9)), (812, false)), ((7, (51, 70)), (813, false)), ((7, (60, 59)), (816, false)), ((7, (64, 121)), (755, true)), ((7, (68, 71)), (818, false)), ((7, (71, 73)), (834, false)), ((7, (74, 74)), (839, false)), ((7, (78, 72)), (822, false)), ((7, (85, 60)), (826, false)), ((7, (91, 40)), (827, false)), ((7, (94, 42)), (832, false)), ((7, (98, 43)), (833, false)), ((7, (105, 24)), (838, false)), ((7, (108, 67)), (843, false)), ((8, (3, 198)), (250, false)), ((8, (11, 58)), (252, false)), ((8, (27, 60)), (941, false)), ((8, (31, 59)), (963, false)), ((9, (3, 198)), (96, false)), ((9, (11, 58)), (99, false)), ((9, (22, 7)), (48, true)), ((9, (31, 60)), (471, false)), ((9, (35, 8)), (479, false)), ((9, (41, 81)), (495, false)), ((9, (45, 87)), (499, false)), ((9, (49, 82)), (507, false)), ((9, (52, 83)), (526, false)), ((9, (55, 84)), (534, false)), ((9, (58, 85)), (560, false)), ((9, (61, 86)), (511, false)), ((9, (65, 10)), (521, false)), ((9, (69, 11)), (530, false)), ((9, (75, 88)), (515, false)), ((9, (79, 12)), (538, false)), ((9, (83, 16)), (543, false)), ((9, (86, 17)), (552, false)), ((9, (92, 120)), (456, true)), ((9, (95, 59)), (503, false)), ((10, (3, 198)), (88, false)), ((10, (11, 78)), (31, true)), ((10, (18, 7)), (162, true)), ((10, (25, 30)), (227, false)), ((10, (37, 75)), (185, true)), ((10, (44, 38)), (204, true)), ((10, (51, 68)), (301, false)), ((10, (58, 33)), (277, true)), ((10, (65, 48)), (307, true)), ((10, (72, 0)), (332, true)), ((10, (79, 901)), (419, false)), ((10, (85, 902)), (429, false)), ((10, (89, 79)), (467, false)), ((10, (93, 80)), (475, false)), ((10, (99, 118)), (564, false)), ((10, (106, 120)), (621, false)), ((10, (116, 12)), (638, false)), ((10, (123, 59)), (639, false)), ((10, (135, 14)), (640, false)), ((10, (141, 13)), (648, false)), ((10, (153, 15)), (652, false)), ((10, (159, 41)), (660, false)), ((10, (175, 43)), (702, false)), ((10, (179, 16)), (710, false)), ((10, (182, 119)), (711, false)), ((10, (188, 17)), (721, false)), ((10, (192, 18)), (726, false)), ((10, (195, 25)), (739, false)), ((10, (199, 26)), (748, false)), ((10, (203, 19)), (775, false)), ((10, (206, 20)), (788, false)), ((10, (209, 21)), (792, false)), ((10, (218, 32)), (800, false)), ((10, (224, 69)), (808, false)), ((10, (234, 34)), (848, false)), ((10, (240, 49)), (875, false)), ((10, (244, 195)), (894, false)), ((10, (249, 50)), (899, false)), ((10, (252, 51)), (909, false)), ((10, (255, 52)), (918, false)), ((10, (264, 76)), (937, false)), ((10, (271, 54)), (950, false)), ((10, (275, 55)), (964, false)), ((10, (278, 1)), (972, false)), ((10, (287, 5)), (993, false)), ((10, (296, 23)), (1013, false)), ((10, (299, 31)), (715, false)), ((10, (305, 22)), (1026, false)), ((10, (308, 9)), (568, false)), ((11, (1, 198)), (1032, false)), ((11, (75, 139)), (1033, false)), ((11, (78, 140)), (1049, false)), ((11, (81, 123)), (1149, false)), ((11, (92, 126)), (1168, false)), ((11, (100, 127)), (1180, false)), ((11, (104, 129)), (1176, false)), ((11, (108, 128)), (1184, false)), ((11, (115, 130)), (1172, false)), ((11, (118, 131)), (1188, false)), ((11, (121, 132)), (1192, false)), ((11, (127, 133)), (1164, false)), ((11, (130, 134)), (1160, false)), ((11, (133, 136)), (1037, false)), ((11, (137, 137)), (1041, false)), ((11, (140, 138)), (1045, false)), ((11, (152, 147)), (1347, false)), ((11, (156, 150)), (1239, false)), ((11, (160, 152)), (1243, false)), ((11, (166, 151)), (1231, false)), ((11, (170, 153)), (1235, false)), ((11, (173, 154)), (1227, false)), ((11, (177, 148)), (1281, false)), ((11, (180, 155)), (1251, false)), ((11, (184, 156)), (1289, false)), ((11, (188, 143)), (1204, false)), ((11, (192, 145)), (1208, false)), ((11, (196, 144)), (1215, false)), ((11, (199, 146)), (1219, false)), ((11, (202, 163)), (1259, false)), ((11, (205, 164)), (1263, false)), ((11, (208, 165)), (1270, false)), ((11, (212, 157)), (1277, false)), ((11, (215, 158)), (1285, false)), ((11, (218, 166)), (1297, false)), ((11, (221, 167)), (1305, false)), ((11, (224, 168)), (1308, false)), ((11, (227, 142)), (1319, false)), ((11, (230, 177)), (1323, false)), ((11, (233, 176)), (1327, false)), ((11, (236, 175)), (1331, false)), ((11, (239, 179)), (1339, false)), ((11, (242, 149)), (1362, false)), ((11, (245, 187)), (1378, false)), ((11, (254, 190)), (1393, false)), ((12, (9, 89)), (85, false)), ((12, (12, 122)), (1029, false)), ((12, (13, 90)), (617, false)), ((12, (17, 124)), (1145, false)), ((12, (18, 91)), (622, false)), ((12, (22, 125)), (1152, false)), ((12, (23, 92)), (626, false)), ((12, (26, 135)), (1156, false)), ((12, (27, 93)), (630, false)), ((12, (30, 141)), (1196, false)), ((12, (31, 94)), (634, false)), ((12, (35, 159)), (1200, false)), ((12, (36, 95)), (644, false)), ((12, (39, 160)), (1211, false)), ((12, (40, 96)), (656, false)), ((12, (43, 161)), (1223, false)), ((12, (44, 97)), (698, false)), ((12, (47, 162)), (1247, false)), ((12, (48, 98)), (706, false)), ((12, (51, 169)), (1255, false)), ((12, (52, 99)), (722, false)), ((12, (55, 170)), (1266, false)), ((12, (56, 100)), (735, false)), ((12, (59, 171)), (1273, false)), ((12, (60, 101)), (771, false)), ((12, (63, 172)), (1293, false)), ((12, (64, 102)), (784, false)), ((12, (67, 173)), (1301, false)), ((12, (68, 103)), (796, false)), ((12, (71, 174)), (1311, false)), ((12, (72, 104)), (804, false)), ((12, (75, 178)), (1315, false)), ((12, (76, 105)), (844, false)), ((12, (79, 180)), (1335, false)), ((12, (80, 106)), (871, false)), ((12, (83, 181)), (1343, false)), ((12, (84, 107)), (895, false)), ((12, (87, 182)), (1350, false)), ((12, (88, 108)), (905, false)), ((12, (91, 183)), (1354, false)), ((12, (92, 109)), (914, false)), ((12, (95, 184)), (1358, false)), ((12, (96, 110)), (933, false)), ((12, (99, 185)), (1366, false)), ((12, (100, 111)), (942, false)), ((12, (103, 186)), (1370, false)), ((12, (104, 112)), (946, false)), ((12, (107, 188)), (1374, false)), ((12, (108, 113)), (968, false)), ((12, (111, 189)), (1382, false)), ((12, (112, 114)), (989, false)), ((12, (116, 191)), (1386, false)), ((12, (117, 115)), (1014, false)), ((12, (120, 192)), (1397, false)), ((12, (121, 116)), (1018, false)), ((12, (124, 193)), (1401, false)), ((12, (125, 117)), (1022, false)), ((12, (128, 194)), (1405, false))]
theorem jLnkC_ok : (jLnkC.all fun e => jLnkOk e.1.1 e.1.2.1 e.1.2.2 e.2.1 e.2.2) = true := by decide +kernel
theorem jMthT_ok : (jMthT.zipIdx.all fun q => q.1.all fun x => jLnkC.any fun e => decide (e.1 = (q.2, (x.1, x.2)))) = true := by decide +kernel
theorem jlnk0 {own i m : Nat} (h : (jMthT.getD own []).lookup i = some m) : ∃ p nest, jLnkOk own i m p nest = true := by
  have h1 := jlookup_mem _ _ _ h
  have h2 := List.all_eq_true.mp jMthT_ok _ (jmem_getD h1)
  have h3 := List.all_eq_true.mp h2 _ h1
  obtain ⟨e, he, h4⟩ := List.any_eq_true.mp h3
  have h5 := List.all_eq_true.mp jLnkC_ok _ he
  have h6 : e.1 = (own, (i, m)) := of_decide_eq_true h4
  rw [h6] at h5
  exact ⟨_, _, h5⟩
theorem jlnk {own i m : Nat} (hm : m < 197 ∨ m = 198) (h : (jMthT.getD own []).lookup i = some m) : Cond.methodLink (jC own) i (jYT.getD m objectInit) ∈ jTs ∨ Cond.methodLinkNest (jC own) i (jYT.getD m objectInit) "PlayedLaws" ∈ jNest := by
  obtain ⟨p, nest, h5⟩ := jlnk0 h
  unfold jLnkOk at h5
  have e1 : Nat.ble 900 m = false := by
    rw [← Bool.not_eq_true, Nat.ble_eq]
    omega
  rw [if_neg (by rw [e1]; decide)] at h5
  rw [Bool.and_eq_true] at h5
  have h7 := h5.2
  cases nest
  · exact Or.inl (jAt_mem h7)
  · exact Or.inr (jAtN_mem h7)
theorem jlnk_copy {own i : Nat} (h : (jMthT.getD own []).lookup i = some 900) : Cond.methodLink (jC own) i arraycopyName ∈ jTs := by
  obtain ⟨p, nest, h5⟩ := jlnk0 h
  exact jAt_mem h5
theorem jlnk_max {own i : Nat} (h : (jMthT.getD own []).lookup i = some 903) : Cond.methodLink (jC own) i Lib.Math.max.name ∈ jTs := by
  obtain ⟨p, nest, h5⟩ := jlnk0 h
  exact jAt_mem h5
theorem jlnk_min {own i : Nat} (h : (jMthT.getD own []).lookup i = some 904) : Cond.methodLink (jC own) i Lib.Math.min.name ∈ jTs := by
  obtain ⟨p, nest, h5⟩ := jlnk0 h
  exact jAt_mem h5
theorem jmeth {m : Nat} (hm : m < 197) : Cond.code (jYT.getD m objectInit) (jBytesT.getD m .empty) (jMaxT.getD m 0) (jRetT.getD m none) ∈ jTs ∧ Cond.initialized (jYT.getD m objectInit).cls ∈ jTs ∧ (if jStatT.getD m false = true then Cond.static (jYT.getD m objectInit) ∈ jTs else Cond.instanceMethod (jYT.getD m objectInit) ∈ jTs) ∧ (jStatT.getD m false = false → jInitT.getD m false = false → Cond.selects (jC (jOwn m)) (jYT.getD m objectInit) (jYT.getD m objectInit) ∈ jTs) ∧ (parseMethodDescriptor (jYT.getD m objectInit).desc).map (fun x => x.parameters.length) = some (jParT.getD m 0) ∧ (jInitT.getD m false = true → (jYT.getD m objectInit).name = "<init>") ∧ (jYT.getD m objectInit).cls = jC (jOwn m) ∧ ((jYT.getD m objectInit).cls ≠ "java/lang/invoke/MethodHandle" ∧ (jYT.getD m objectInit).cls ≠ "java/lang/invoke/VarHandle") ∧ plainName (jYT.getD m objectInit).cls = true := by
  obtain ⟨a, b, c, d, h1, hc⟩ := jMC_ok m hm
  simp only [jMOk, Bool.and_eq_true] at h1
  obtain ⟨⟨c2, c3⟩, c4, ⟨⟨⟨c5, c6⟩, c7⟩, c8⟩, c9⟩ := h1
  refine ⟨List.mem_filter.mpr ⟨List.mem_of_getElem? hc, rfl⟩, jAt_mem c2, ?_, fun h3 h4 => ?_, of_decide_eq_true c5, fun h3 => ?_, eq_of_beq c7, of_decide_eq_true c8, c9⟩
  · split at c3
    · rename_i z; rw [if_pos z]; exact jAt_mem c3
    · rename_i z; rw [if_neg z]; exact jAt_mem c3
  · rw [h3, h4] at c4
    exact jAt_mem c4
  · rw [h3] at c6
    exact of_decide_eq_true (by simpa using c6)
def jClOk (k p q : Nat) : Bool := (List.range (jN k)).all (fun s => decide (parseFieldDescriptor (jT k s).2.2.1 = some (jTy k s)))
def jNewOk (own i k p a b : Nat) : Bool := Nat.blt k 12 && (jAt p (.classLink (jC own) i (jC k)) && (jAt a (.initialized (jC k)) && jAt b (.instantiable (jC k) (jN k))))
def jNewC : List ((Nat × (Nat × Nat)) × (Nat × (Nat × Nat))) := [((0, (9, 1)), (398, (66, 109))), ((0, (18, 4)), (400, (69, 265))), ((1, (9, 6)), (114, (65, 98))), ((2, (7, 1)), (231, (66, 109))), ((3, (9, 1)), (343, (66, 109))), ((3, (18, 4)), (345, (69, 265))), ((3, (25, 6)), (347, (65, 98))), ((4, (9, 6)), (270, (65, 98))), ((5, (9, 1)), (373, (66, 109))), ((5, (18, 4)), (375, (69, 265))), ((7, (9, 1)), (305, (66, 109))), ((7, (18, 4)), (307, (69, 265))), ((7, (24, 6)), (309, (65, 98))), ((8, (9, 6)), (251, (65, 98))), ((9, (9, 6)), (97, (65, 98))), ((9, (20, 1)), (108, (66, 109))), ((10, (9, 9)), (91, (64, 92))), ((10, (16, 1)), (223, (66, 109))), ((10, (23, 2)), (225, (67, 226))), ((10, (35, 8)), (245, (68, 246))), ((10, (42, 4)), (264, (69, 265))), ((10, (49, 7)), (299, (70, 300))), ((10, (56, 3)), (337, (71, 338))), ((10, (63, 5)), (367, (72, 368))), ((10, (70, 0)), (392, (73, 393))), ((12, (7, 10)), (83, (63, 84))), ((12, (10, 11)), (1027, (81, 1028)))]
theorem jNewC_ok : (jNewC.all fun e => jNewOk e.1.1 e.1.2.1 e.1.2.2 e.2.1 e.2.2.1 e.2.2.2) = true := by decide +kernel
theorem jClsT_ok : (jClsT.zipIdx.all fun q => q.1.all fun x => jNewC.any fun e => decide (e.1 = (q.2, (x.1, x.2)))) = true := by decide +kernel
theorem jcls {own i k : Nat} (h : (jClsT.getD own []).lookup i = some k) : k < 12 ∧ Cond.classLink (jC own) i (jC k) ∈ jTs ∧ Cond.initialized (jC k) ∈ jTs ∧ Cond.instantiable (jC k) (jN k) ∈ jTs := by
  have h1 := jlookup_mem _ _ _ h
  have h2 := List.all_eq_true.mp jClsT_ok _ (jmem_getD h1)
  have h3 := List.all_eq_true.mp h2 _ h1
  obtain ⟨e, he, h4⟩ := List.any_eq_true.mp h3
  have h5 := List.all_eq_true.mp jNewC_ok _ he
  have h6 : e.1 = (own, (i, k)) := of_decide_eq_true h4
  rw [h6] at h5
  simp only [jNewOk, Bool.and_eq_true, Nat.blt_eq] at h5
  exact ⟨h5.1, jAt_mem h5.2.1, jAt_mem h5.2.2.1, jAt_mem h5.2.2.2⟩
def jCstC : List ((Nat × (Nat × Int32)) × Nat) := [((13, (265, 1431655765)), 882), ((13, (266, 858993459)), 883), ((13, (267, 252645135)), 884)]
theorem jCstC_ok : (jCstC.all fun e => jAt e.2 (.constant (jC e.1.1) e.1.2.1 e.1.2.2)) = true := by decide +kernel
theorem jCstT_ok : (jCstT.zipIdx.all fun q => q.1.all fun x => jCstC.any fun e => decide (e.1 = (q.2, (x.1, x.2)))) = true := by decide +kernel
def jLngC : List ((Nat × (Nat × Int64)) × Nat) := [((0, (73, 7919)), 998), ((0, (75, 6151)), 999), ((0, (77, 65521)), 1000), ((11, (248, 7919)), 1390), ((11, (250, 6151)), 1391), ((11, (252, 65521)), 1392)]
theorem jLngC_ok : (jLngC.all fun e => jAt e.2 (.constantLong (jC e.1.1) e.1.2.1 e.1.2.2)) = true := by decide +kernel
theorem jLngT_ok : (jLngT.zipIdx.all fun q => q.1.all fun x => jLngC.any fun e => decide (e.1 = (q.2, (x.1, x.2)))) = true := by decide +kernel
theorem jcst {own i : Nat} {x : Int32} (h : (jCstT.getD own []).lookup i = some x) : Cond.constant (jC own) i x ∈ jTs := by
  have h1 := jlookup_mem _ _ _ h
  have h2 := List.all_eq_true.mp jCstT_ok _ (jmem_getD h1)
  have h3 := List.all_eq_true.mp h2 _ h1
  obtain ⟨e, he, h4⟩ := List.any_eq_true.mp h3
  have h5 := List.all_eq_true.mp jCstC_ok _ he
  have h6 : e.1 = (own, (i, x)) := of_decide_eq_true h4
  rw [h6] at h5
  exact jAt_mem h5
theorem jlng {own i : Nat} {x : Int64} (h : (jLngT.getD own []).lookup i = some x) : Cond.constantLong (jC own) i x ∈ jTs := by
  have h1 := jlookup_mem _ _ _ h
  have h2 := List.all_eq_true.mp jLngT_ok _ (jmem_getD h1)
  have h3 := List.all_eq_true.mp h2 _ h1
  obtain ⟨e, he, h4⟩ := List.any_eq_true.mp h3
  have h5 := List.all_eq_true.mp jLngC_ok _ he
  have h6 : e.1 = (own, (i, x)) := of_decide_eq_true h4
  rw [h6] at h5
  exact jAt_mem h5
def jUwC : List (List Nat) := [[409, 411, 413, 415], [175, 177, 179, 181, 183, 185, 187, 189, 191, 193, 195, 197, 199, 201, 203, 205], [238, 240, 242], [356, 358, 360, 362, 364], [286, 288, 290, 292, 294, 296], [383, 385, 387, 389], [104], [322, 324, 326, 328, 330, 332, 334], [257, 259, 261], [214, 216, 218, 220], [593, 595, 597, 599, 601, 603, 605, 607, 609, 611, 613], [1083, 1085, 1087, 1089, 1091, 1093, 1095, 1097, 1099, 1101, 1103, 1105, 1107, 1109, 1111, 1113, 1115, 1117, 1119, 1121, 1123, 1125, 1127, 1129, 1131, 1133, 1135, 1137, 1139, 1141]]
theorem jUwC_ok : (jUwC.zipIdx.all fun q => Nat.ble (jN q.2) q.1.length && (q.1.zipIdx.all fun x => jAt x.1 (u_lay (jC q.2) (jT q.2) x.2))) = true := by decide +kernel
theorem juws {k : Nat} (hk : k < 12) : ∀ w ∈ u_ws (jC k) (jT k) (jN k), w ∈ jTs := by
  intro w hw
  obtain ⟨s, hs, rfl⟩ := List.mem_map.mp hw
  have h0 : k < jUwC.length := by rw [show jUwC.length = 12 by decide +kernel]; exact hk
  have h1 := List.all_eq_true.mp jUwC_ok (jUwC[k], k) (List.mem_zipIdx_iff_getElem?.mpr (List.getElem?_eq_getElem h0))
  simp only [Bool.and_eq_true, Nat.ble_eq] at h1
  have h2 : s < jUwC[k].length := by have := List.mem_range.mp hs; omega
  exact jAt_mem (List.all_eq_true.mp h1.2 (jUwC[k][s], s) (List.mem_zipIdx_iff_getElem?.mpr (List.getElem?_eq_getElem h2)))
theorem jcl_at : ∀ k, k < 12 → jCl[k]? = some (jC k, jT k, jN k)
  | 0, _ => rfl
  | 1, _ => rfl
  | 2, _ => rfl
  | 3, _ => rfl
  | 4, _ => rfl
  | 5, _ => rfl
  | 6, _ => rfl
  | 7, _ => rfl
  | 8, _ => rfl
  | 9, _ => rfl
  | 10, _ => rfl
  | 11, _ => rfl
  | n + 12, h => absurd h (by omega)
theorem jty_ok : ∀ k, k < 12 → ∀ s, s < jN k → parseFieldDescriptor (jT k s).2.2.1 = some (jTy k s)
  | 0, _ => tyX0_ok
  | 1, _ => tyX1_ok
  | 2, _ => tyX2_ok
  | 3, _ => tyX3_ok
  | 4, _ => tyX4_ok
  | 5, _ => tyX5_ok
  | 6, _ => tyX6_ok
  | 7, _ => tyX7_ok
  | 8, _ => tyX8_ok
  | 9, _ => tyX9_ok
  | 10, _ => tyX10_ok
  | 11, _ => tyX11_ok
  | n + 12, h => absurd h (by omega)
theorem jnm_ok : ∀ k, k < 12 → ∀ a, a < jN k → ∀ b, b < jN k → a ≠ b → (jT k a).2.1 ≠ (jT k b).2.1
  | 0, _ => nmX0
  | 1, _ => nmX1
  | 2, _ => nmX2
  | 3, _ => nmX3
  | 4, _ => nmX4
  | 5, _ => nmX5
  | 6, _ => nmX6
  | 7, _ => nmX7
  | 8, _ => nmX8
  | 9, _ => nmX9
  | 10, _ => nmX10
  | 11, _ => nmX11
  | n + 12, h => absurd h (by omega)
