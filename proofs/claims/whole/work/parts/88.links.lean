/-! the pools of the tables against the words of the claim -/
def jTs : List Jvm.Cond := lw_tbl.filter goodWord
def jIsNest : Jvm.Cond → Bool
  | .fieldLinkNest .. => true
  | .methodLinkNest .. => true
  | _ => false
def jNest : List Jvm.Cond := tables_1.filter jIsNest
theorem jlookup_mem {α : Type} : ∀ (l : List (Nat × α)) (k : Nat) (v : α), l.lookup k = some v → (k, v) ∈ l
  | [], k, v, h => by simp [List.lookup] at h
  | (a, b) :: l, k, v, h => by
    rw [List.lookup_cons] at h
    by_cases e : k = a
    · subst e
      simp at h
      subst h
      exact List.mem_cons_self
    · have e2 : (k == a) = false := by simp [e]
      rw [e2] at h
      exact List.mem_cons_of_mem _ (jlookup_mem l k v h)
abbrev jCl : List vw_C := [(RX0, TX0, 4), (RX1, TX1, 16), (RX2, TX2, 3), (RX3, TX3, 5), (RX4, TX4, 6), (RX5, TX5, 4), (RX6, TX6, 1), (RX7, TX7, 7), (RX8, TX8, 3), (RX9, TX9, 4), (RX10, TX10, 11), (RX11, TX11, 30)]
def jAt (i : Nat) (w : Jvm.Cond) : Bool := decide (lw_tbl[i]? = some w) && goodWord w
def jAtN (i : Nat) (w : Jvm.Cond) : Bool := decide (tables_1[i]? = some w) && jIsNest w
theorem jAt_mem {i : Nat} {w : Jvm.Cond} (h : jAt i w = true) : w ∈ jTs := by
  simp only [jAt, Bool.and_eq_true, decide_eq_true_eq] at h
  exact List.mem_filter.mpr ⟨List.mem_of_getElem? h.1, h.2⟩
theorem jAtN_mem {i : Nat} {w : Jvm.Cond} (h : jAtN i w = true) : w ∈ jNest := by
  simp only [jAtN, Bool.and_eq_true, decide_eq_true_eq] at h
  exact List.mem_filter.mpr ⟨List.mem_of_getElem? h.1, h.2⟩
theorem jTs_good : ∀ w ∈ jTs, goodWord w = true := fun w h => (List.mem_filter.mp h).2
def jC (k : Nat) : String := jROwn.getD k ""
def jT (k : Nat) : u_T := jTX.getD k (fun _ => ("", "", "", false))
def jN (k : Nat) : Nat := jNT.getD k 0
def jTy (k : Nat) : Nat → FieldType := jTyX.getD k (fun _ => .int)
def jFldOk (own i k s p : Nat) (nest : Bool) : Bool := (Nat.blt k 12 && Nat.blt s (jN k)) && (if nest then jAtN p (.fieldLinkNest (jC own) i (jT k s).1 (jT k s).2.1 (jT k s).2.2.1 "PlayedLaws") else jAt p (.fieldLink (jC own) i (jT k s).1 (jT k s).2.1 (jT k s).2.2.1))
def jFldC : List ((Nat × (Nat × (Nat × Nat))) × (Nat × Bool)) := [((0, (12, (0, 0))), (403, false)), ((0, (21, (0, 1))), (405, false)), ((0, (25, (0, 2))), (406, false)), ((0, (29, (0, 3))), (408, false)), ((0, (32, (1, 11))), (94, true)), ((0, (59, (1, 5))), (72, true)), ((0, (83, (1, 10))), (92, true)), ((0, (90, (1, 12))), (104, true)), ((1, (14, (1, 0))), (117, false)), ((1, (20, (1, 1))), (121, false)), ((1, (23, (1, 2))), (125, false)), ((1, (26, (1, 3))), (127, false)), ((1, (29, (1, 4))), (130, false)), ((1, (32, (1, 5))), (133, false)), ((1, (35, (1, 6))), (138, false)), ((1, (38, (1, 7))), (142, false)), ((1, (41, (1, 8))), (146, false)), ((1, (44, (1, 9))), (148, false)), ((1, (53, (1, 10))), (151, false)), ((1, (57, (1, 11))), (158, false)), ((1, (60, (1, 12))), (162, false)), ((1, (63, (1, 13))), (169, false)), ((1, (66, (1, 14))), (172, false)), ((1, (69, (1, 15))), (174, false)), ((1, (127, (4, 5))), (223, true)), ((1, (141, (4, 3))), (218, true)), ((2, (9, (2, 0))), (235, false)), ((2, (16, (2, 1))), (236, false)), ((2, (24, (2, 2))), (237, false)), ((3, (12, (3, 0))), (350, false)), ((3, (21, (3, 1))), (351, false)), ((3, (30, (3, 2))), (352, false)), ((3, (34, (3, 4))), (356, false)), ((3, (46, (1, 9))), (86, true)), ((3, (52, (3, 3))), (354, false)), ((3, (62, (1, 11))), (96, true)), ((3, (73, (4, 5))), (221, true)), ((4, (14, (4, 0))), (273, false)), ((4, (20, (4, 1))), (275, false)), ((4, (23, (4, 2))), (278, false)), ((4, (26, (4, 3))), (279, false)), ((4, (29, (4, 4))), (282, false)), ((4, (35, (4, 5))), (283, false)), ((4, (46, (1, 12))), (100, true)), ((4, (59, (1, 11))), (97, true)), ((4, (62, (1, 9))), (87, true)), ((4, (76, (1, 4))), (69, true)), ((4, (90, (1, 1))), (61, true)), ((4, (93, (1, 5))), (74, true)), ((4, (96, (1, 6))), (78, true)), ((4, (99, (1, 0))), (57, true)), ((4, (108, (1, 3))), (66, true)), ((4, (114, (1, 7))), (82, true)), ((5, (12, (5, 0))), (378, false)), ((5, (21, (5, 1))), (379, false)), ((5, (25, (1, 11))), (93, true)), ((5, (43, (1, 5))), (71, true)), ((5, (57, (1, 10))), (90, true)), ((5, (71, (5, 2))), (380, false)), ((5, (74, (5, 3))), (382, false)), ((5, (77, (1, 12))), (101, true)), ((5, (103, (1, 7))), (80, true)), ((5, (110, (1, 6))), (77, true)), ((5, (113, (4, 1))), (214, true)), ((6, (9, (6, 0))), (104, false)), ((7, (12, (7, 0))), (313, false)), ((7, (20, (7, 1))), (314, false)), ((7, (29, (7, 2))), (315, false)), ((7, (33, (7, 6))), (322, false)), ((7, (38, (7, 5))), (321, false)), ((7, (45, (7, 3))), (317, false)), ((7, (48, (7, 4))), (319, false)), ((7, (59, (1, 10))), (89, true)), ((7, (66, (1, 1))), (59, true)), ((7, (86, (1, 4))), (68, true)), ((7, (92, (1, 12))), (102, true)), ((7, (106, (1, 0))), (56, true)), ((8, (14, (8, 0))), (254, false)), ((8, (20, (8, 1))), (255, false)), ((8, (23, (8, 2))), (256, false)), ((9, (14, (9, 0))), (209, false)), ((9, (23, (9, 1))), (210, false)), ((9, (27, (9, 2))), (213, false)), ((9, (38, (9, 3))), (214, false)), ((9, (72, (1, 12))), (103, true)), ((9, (89, (1, 13))), (107, true)), ((10, (12, (10, 0))), (583, false)), ((10, (19, (10, 1))), (584, false)), ((10, (28, (10, 2))), (585, false)), ((10, (32, (10, 3))), (586, false)), ((10, (38, (10, 4))), (587, false)), ((10, (45, (10, 5))), (588, false)), ((10, (52, (10, 6))), (589, false)), ((10, (59, (10, 7))), (590, false)), ((10, (66, (10, 8))), (591, false)), ((10, (73, (10, 9))), (592, false)), ((10, (96, (9, 1))), (148, true)), ((10, (103, (9, 2))), (149, true)), ((10, (110, (1, 10))), (91, true)), ((10, (113, (1, 11))), (98, true)), ((10, (119, (1, 0))), (55, true)), ((10, (129, (1, 1))), (60, true)), ((10, (132, (1, 2))), (63, true)), ((10, (138, (1, 3))), (65, true)), ((10, (144, (1, 5))), (73, true)), ((10, (147, (1, 6))), (76, true)), ((10, (150, (1, 7))), (81, true)), ((10, (156, (1, 8))), (84, true)), ((10, (163, (4, 1))), (213, true)), ((10, (166, (4, 3))), (217, true)), ((10, (169, (4, 0))), (211, true)), ((10, (172, (4, 5))), (222, true)), ((10, (185, (1, 12))), (105, true)), ((10, (212, (1, 13))), (108, true)), ((10, (215, (2, 2))), (175, true)), ((10, (221, (10, 10))), (593, false)), ((10, (228, (7, 3))), (255, true)), ((10, (229, (7, 4))), (257, true)), ((10, (231, (7, 2))), (253, true)), ((10, (236, (3, 3))), (292, true)), ((10, (239, (3, 2))), (290, true)), ((10, (258, (5, 2))), (318, true)), ((10, (261, (5, 3))), (320, true)), ((10, (268, (8, 2))), (194, true)), ((10, (281, (0, 2))), (344, true)), ((10, (284, (0, 3))), (346, true)), ((10, (290, (0, 0))), (341, true)), ((10, (293, (1, 15))), (112, true)), ((10, (302, (1, 14))), (110, true)), ((11, (7, (11, 0))), (1058, false)), ((11, (13, (11, 2))), (1060, false)), ((11, (17, (11, 3))), (1061, false)), ((11, (20, (11, 4))), (1062, false)), ((11, (23, (11, 5))), (1063, false)), ((11, (26, (11, 6))), (1064, false)), ((11, (29, (11, 7))), (1065, false)), ((11, (32, (11, 8))), (1066, false)), ((11, (35, (11, 9))), (1067, false)), ((11, (38, (11, 10))), (1068, false)), ((11, (41, (11, 15))), (1073, false)), ((11, (44, (11, 16))), (1074, false)), ((11, (47, (11, 18))), (1076, false)), ((11, (50, (11, 20))), (1078, false)), ((11, (53, (11, 21))), (1079, false)), ((11, (56, (11, 22))), (1080, false)), ((11, (59, (11, 23))), (1081, false)), ((11, (63, (11, 24))), (1082, false)), ((11, (66, (11, 26))), (1084, false)), ((11, (69, (11, 27))), (1085, false)), ((11, (72, (11, 28))), (1086, false)), ((11, (85, (11, 1))), (1059, false)), ((11, (89, (11, 13))), (1071, false)), ((11, (96, (11, 14))), (1072, false)), ((11, (112, (11, 11))), (1069, false)), ((11, (124, (11, 12))), (1070, false)), ((11, (143, (11, 17))), (1075, false)), ((11, (146, (11, 19))), (1077, false)), ((11, (149, (11, 29))), (1087, false)), ((11, (163, (11, 25))), (1083, false))]
theorem jFldC_ok : (jFldC.all fun e => jFldOk e.1.1 e.1.2.1 e.1.2.2.1 e.1.2.2.2 e.2.1 e.2.2) = true := by decide +kernel
theorem jFldT_ok : (jFldT.zipIdx.all fun q => q.1.all fun x => jFldC.any fun e => decide (e.1 = (q.2, (x.1, x.2)))) = true := by decide +kernel
theorem jmem_getD {α : Type} {t : List (List α)} {own : Nat} {x : α} (h : x ∈ t.getD own []) : (t.getD own [], own) ∈ t.zipIdx := by
  rw [List.getD_eq_getElem?_getD] at h ⊢
  cases hq : t[own]? with
  | none => rw [hq] at h; exact absurd h List.not_mem_nil
  | some l => exact List.mem_zipIdx_iff_getElem?.mpr hq
theorem jfld {own i k s : Nat} (h : (jFldT.getD own []).lookup i = some (k, s)) : k < 12 ∧ s < jN k ∧ (Cond.fieldLink (jC own) i (jT k s).1 (jT k s).2.1 (jT k s).2.2.1 ∈ jTs ∨ Cond.fieldLinkNest (jC own) i (jT k s).1 (jT k s).2.1 (jT k s).2.2.1 "PlayedLaws" ∈ jNest) := by
  have h1 := jlookup_mem _ _ _ h
  have h2 := List.all_eq_true.mp jFldT_ok _ (jmem_getD h1)
  have h3 := List.all_eq_true.mp h2 _ h1
  obtain ⟨e, he, h4⟩ := List.any_eq_true.mp h3
  have h5 := List.all_eq_true.mp jFldC_ok _ he
  have h6 : e.1 = (own, (i, (k, s))) := of_decide_eq_true h4
  rw [h6] at h5
  simp only [jFldOk, Bool.and_eq_true, Nat.blt_eq] at h5
  refine ⟨h5.1.1, h5.1.2, ?_⟩
  have h7 := h5.2
  cases hb : e.2.2
  · rw [hb] at h7
    exact Or.inl (jAt_mem h7)
  · rw [hb] at h7
    exact Or.inr (jAtN_mem h7)
theorem jFldC_own : (jFldC.all fun e => e.1.1 != e.1.2.2.1 || !e.2.2) = true := by decide +kernel
theorem jfld_own {k i s : Nat} (h : (jFldT.getD k []).lookup i = some (k, s)) : Cond.fieldLink (jC k) i (jT k s).1 (jT k s).2.1 (jT k s).2.2.1 ∈ jTs := by
  have h1 := jlookup_mem _ _ _ h
  have h2 := List.all_eq_true.mp jFldT_ok _ (jmem_getD h1)
  have h3 := List.all_eq_true.mp h2 _ h1
  obtain ⟨e, he, h4⟩ := List.any_eq_true.mp h3
  have h5 := List.all_eq_true.mp jFldC_ok _ he
  have h8 := List.all_eq_true.mp jFldC_own _ he
  have h6 : e.1 = (k, (i, (k, s))) := of_decide_eq_true h4
  rw [h6] at h5 h8
  simp only [jFldOk, Bool.and_eq_true, Nat.blt_eq] at h5
  have h7 := h5.2
  cases hb : e.2.2
  · rw [hb] at h7
    exact jAt_mem h7
  · rw [hb] at h8
    simp at h8
def jMOk (m a b c d : Nat) : Bool := (jAt b (.initialized (jYT.getD m objectInit).cls) && (if jStatT.getD m false then jAt c (.static (jYT.getD m objectInit)) else jAt c (.instanceMethod (jYT.getD m objectInit)))) && ((if jStatT.getD m false || jInitT.getD m false then true else jAt d (.selects (jC (jOwn m)) (jYT.getD m objectInit) (jYT.getD m objectInit))) && (decide ((parseMethodDescriptor (jYT.getD m objectInit).desc).map (fun x => x.parameters.length) = some (jParT.getD m 0)) && (decide ((jYT.getD m objectInit).name = "<init>") == jInitT.getD m false) && (jYT.getD m objectInit).cls == jC (jOwn m) && decide ((jYT.getD m objectInit).cls ≠ "java/lang/invoke/MethodHandle" ∧ (jYT.getD m objectInit).cls ≠ "java/lang/invoke/VarHandle") && plainName (jYT.getD m objectInit).cls))
theorem jmk0 : jMOk 0 397 74 396 0 = true := by decide +kernel
set_option maxRecDepth 100000 in
theorem jcd0 : lw_tbl[397]? = some (Cond.code (jYT.getD 0 objectInit) (jBytesT.getD 0 .empty) (jMaxT.getD 0 0) (jRetT.getD 0 none)) := rfl
theorem jmk1 : jMOk 1 980 74 978 979 = true := by decide +kernel
set_option maxRecDepth 100000 in
theorem jcd1 : lw_tbl[980]? = some (Cond.code (jYT.getD 1 objectInit) (jBytesT.getD 1 .empty) (jMaxT.getD 1 0) (jRetT.getD 1 none)) := rfl
theorem jmk2 : jMOk 2 987 74 986 0 = true := by decide +kernel
set_option maxRecDepth 100000 in
theorem jcd2 : lw_tbl[987]? = some (Cond.code (jYT.getD 2 objectInit) (jBytesT.getD 2 .empty) (jMaxT.getD 2 0) (jRetT.getD 2 none)) := rfl
theorem jmk3 : jMOk 3 983 74 982 0 = true := by decide +kernel
set_option maxRecDepth 100000 in
theorem jcd3 : lw_tbl[983]? = some (Cond.code (jYT.getD 3 objectInit) (jBytesT.getD 3 .empty) (jMaxT.getD 3 0) (jRetT.getD 3 none)) := rfl
theorem jmk4 : jMOk 4 993 74 992 0 = true := by decide +kernel
set_option maxRecDepth 100000 in
theorem jcd4 : lw_tbl[993]? = some (Cond.code (jYT.getD 4 objectInit) (jBytesT.getD 4 .empty) (jMaxT.getD 4 0) (jRetT.getD 4 none)) := rfl
theorem jmk5 : jMOk 5 1001 74 999 1000 = true := by decide +kernel
set_option maxRecDepth 100000 in
theorem jcd5 : lw_tbl[1001]? = some (Cond.code (jYT.getD 5 objectInit) (jBytesT.getD 5 .empty) (jMaxT.getD 5 0) (jRetT.getD 5 none)) := rfl
theorem jmk6 : jMOk 6 1009 74 1008 25 = true := by decide +kernel
set_option maxRecDepth 100000 in
theorem jcd6 : lw_tbl[1009]? = some (Cond.code (jYT.getD 6 objectInit) (jBytesT.getD 6 .empty) (jMaxT.getD 6 0) (jRetT.getD 6 none)) := rfl
theorem jmk7 : jMOk 7 113 67 112 0 = true := by decide +kernel
set_option maxRecDepth 100000 in
theorem jcd7 : lw_tbl[113]? = some (Cond.code (jYT.getD 7 objectInit) (jBytesT.getD 7 .empty) (jMaxT.getD 7 0) (jRetT.getD 7 none)) := rfl
theorem jmk8 : jMOk 8 483 67 481 482 = true := by decide +kernel
set_option maxRecDepth 100000 in
theorem jcd8 : lw_tbl[483]? = some (Cond.code (jYT.getD 8 objectInit) (jBytesT.getD 8 .empty) (jMaxT.getD 8 0) (jRetT.getD 8 none)) := rfl
theorem jmk9 : jMOk 9 572 67 570 571 = true := by decide +kernel
set_option maxRecDepth 100000 in
theorem jcd9 : lw_tbl[572]? = some (Cond.code (jYT.getD 9 objectInit) (jBytesT.getD 9 .empty) (jMaxT.getD 9 0) (jRetT.getD 9 none)) := rfl
theorem jmk10 : jMOk 10 525 67 523 524 = true := by decide +kernel
set_option maxRecDepth 100000 in
theorem jcd10 : lw_tbl[525]? = some (Cond.code (jYT.getD 10 objectInit) (jBytesT.getD 10 .empty) (jMaxT.getD 10 0) (jRetT.getD 10 none)) := rfl
theorem jmk11 : jMOk 11 534 67 532 533 = true := by decide +kernel
set_option maxRecDepth 100000 in
theorem jcd11 : lw_tbl[534]? = some (Cond.code (jYT.getD 11 objectInit) (jBytesT.getD 11 .empty) (jMaxT.getD 11 0) (jRetT.getD 11 none)) := rfl
theorem jmk12 : jMOk 12 542 67 540 541 = true := by decide +kernel
set_option maxRecDepth 100000 in
theorem jcd12 : lw_tbl[542]? = some (Cond.code (jYT.getD 12 objectInit) (jBytesT.getD 12 .empty) (jMaxT.getD 12 0) (jRetT.getD 12 none)) := rfl
theorem jmk13 : jMOk 13 652 67 650 651 = true := by decide +kernel
set_option maxRecDepth 100000 in
theorem jcd13 : lw_tbl[652]? = some (Cond.code (jYT.getD 13 objectInit) (jBytesT.getD 13 .empty) (jMaxT.getD 13 0) (jRetT.getD 13 none)) := rfl
theorem jmk14 : jMOk 14 644 67 642 643 = true := by decide +kernel
set_option maxRecDepth 100000 in
theorem jcd14 : lw_tbl[644]? = some (Cond.code (jYT.getD 14 objectInit) (jBytesT.getD 14 .empty) (jMaxT.getD 14 0) (jRetT.getD 14 none)) := rfl
theorem jmk15 : jMOk 15 656 67 654 655 = true := by decide +kernel
set_option maxRecDepth 100000 in
theorem jcd15 : lw_tbl[656]? = some (Cond.code (jYT.getD 15 objectInit) (jBytesT.getD 15 .empty) (jMaxT.getD 15 0) (jRetT.getD 15 none)) := rfl
theorem jmk16 : jMOk 16 547 67 545 546 = true := by decide +kernel
set_option maxRecDepth 100000 in
theorem jcd16 : lw_tbl[547]? = some (Cond.code (jYT.getD 16 objectInit) (jBytesT.getD 16 .empty) (jMaxT.getD 16 0) (jRetT.getD 16 none)) := rfl
theorem jmk17 : jMOk 17 556 67 554 555 = true := by decide +kernel
set_option maxRecDepth 100000 in
theorem jcd17 : lw_tbl[556]? = some (Cond.code (jYT.getD 17 objectInit) (jBytesT.getD 17 .empty) (jMaxT.getD 17 0) (jRetT.getD 17 none)) := rfl
theorem jmk18 : jMOk 18 730 67 728 729 = true := by decide +kernel
set_option maxRecDepth 100000 in
theorem jcd18 : lw_tbl[730]? = some (Cond.code (jYT.getD 18 objectInit) (jBytesT.getD 18 .empty) (jMaxT.getD 18 0) (jRetT.getD 18 none)) := rfl
theorem jmk19 : jMOk 19 779 67 777 778 = true := by decide +kernel
set_option maxRecDepth 100000 in
theorem jcd19 : lw_tbl[779]? = some (Cond.code (jYT.getD 19 objectInit) (jBytesT.getD 19 .empty) (jMaxT.getD 19 0) (jRetT.getD 19 none)) := rfl
theorem jmk20 : jMOk 20 792 67 790 791 = true := by decide +kernel
set_option maxRecDepth 100000 in
theorem jcd20 : lw_tbl[792]? = some (Cond.code (jYT.getD 20 objectInit) (jBytesT.getD 20 .empty) (jMaxT.getD 20 0) (jRetT.getD 20 none)) := rfl
theorem jmk21 : jMOk 21 796 67 794 795 = true := by decide +kernel
set_option maxRecDepth 100000 in
theorem jcd21 : lw_tbl[796]? = some (Cond.code (jYT.getD 21 objectInit) (jBytesT.getD 21 .empty) (jMaxT.getD 21 0) (jRetT.getD 21 none)) := rfl
theorem jmk22 : jMOk 22 747 67 745 746 = true := by decide +kernel
set_option maxRecDepth 100000 in
theorem jcd22 : lw_tbl[747]? = some (Cond.code (jYT.getD 22 objectInit) (jBytesT.getD 22 .empty) (jMaxT.getD 22 0) (jRetT.getD 22 none)) := rfl
theorem jmk23 : jMOk 23 936 67 934 935 = true := by decide +kernel
set_option maxRecDepth 100000 in
theorem jcd23 : lw_tbl[936]? = some (Cond.code (jYT.getD 23 objectInit) (jBytesT.getD 23 .empty) (jMaxT.getD 23 0) (jRetT.getD 23 none)) := rfl
theorem jmk24 : jMOk 24 761 67 759 760 = true := by decide +kernel
set_option maxRecDepth 100000 in
theorem jcd24 : lw_tbl[761]? = some (Cond.code (jYT.getD 24 objectInit) (jBytesT.getD 24 .empty) (jMaxT.getD 24 0) (jRetT.getD 24 none)) := rfl
theorem jmk25 : jMOk 25 743 67 741 742 = true := by decide +kernel
set_option maxRecDepth 100000 in
theorem jcd25 : lw_tbl[743]? = some (Cond.code (jYT.getD 25 objectInit) (jBytesT.getD 25 .empty) (jMaxT.getD 25 0) (jRetT.getD 25 none)) := rfl
theorem jmk26 : jMOk 26 752 67 750 751 = true := by decide +kernel
set_option maxRecDepth 100000 in
theorem jcd26 : lw_tbl[752]? = some (Cond.code (jYT.getD 26 objectInit) (jBytesT.getD 26 .empty) (jMaxT.getD 26 0) (jRetT.getD 26 none)) := rfl
theorem jmk27 : jMOk 27 771 67 769 770 = true := by decide +kernel
set_option maxRecDepth 100000 in
theorem jcd27 : lw_tbl[771]? = some (Cond.code (jYT.getD 27 objectInit) (jBytesT.getD 27 .empty) (jMaxT.getD 27 0) (jRetT.getD 27 none)) := rfl
theorem jmk28 : jMOk 28 757 67 755 756 = true := by decide +kernel
set_option maxRecDepth 100000 in
theorem jcd28 : lw_tbl[757]? = some (Cond.code (jYT.getD 28 objectInit) (jBytesT.getD 28 .empty) (jMaxT.getD 28 0) (jRetT.getD 28 none)) := rfl
theorem jmk29 : jMOk 29 766 67 765 13 = true := by decide +kernel
set_option maxRecDepth 100000 in
theorem jcd29 : lw_tbl[766]? = some (Cond.code (jYT.getD 29 objectInit) (jBytesT.getD 29 .empty) (jMaxT.getD 29 0) (jRetT.getD 29 none)) := rfl
theorem jmk30 : jMOk 30 230 68 229 0 = true := by decide +kernel
set_option maxRecDepth 100000 in
theorem jcd30 : lw_tbl[230]? = some (Cond.code (jYT.getD 30 objectInit) (jBytesT.getD 30 .empty) (jMaxT.getD 30 0) (jRetT.getD 30 none)) := rfl
theorem jmk31 : jMOk 31 719 68 717 718 = true := by decide +kernel
set_option maxRecDepth 100000 in
theorem jcd31 : lw_tbl[719]? = some (Cond.code (jYT.getD 31 objectInit) (jBytesT.getD 31 .empty) (jMaxT.getD 31 0) (jRetT.getD 31 none)) := rfl
theorem jmk32 : jMOk 32 804 68 802 803 = true := by decide +kernel
set_option maxRecDepth 100000 in
theorem jcd32 : lw_tbl[804]? = some (Cond.code (jYT.getD 32 objectInit) (jBytesT.getD 32 .empty) (jMaxT.getD 32 0) (jRetT.getD 32 none)) := rfl
theorem jmk33 : jMOk 33 342 72 341 0 = true := by decide +kernel
set_option maxRecDepth 100000 in
theorem jcd33 : lw_tbl[342]? = some (Cond.code (jYT.getD 33 objectInit) (jBytesT.getD 33 .empty) (jMaxT.getD 33 0) (jRetT.getD 33 none)) := rfl
theorem jmk34 : jMOk 34 856 72 854 855 = true := by decide +kernel
set_option maxRecDepth 100000 in
theorem jcd34 : lw_tbl[856]? = some (Cond.code (jYT.getD 34 objectInit) (jBytesT.getD 34 .empty) (jMaxT.getD 34 0) (jRetT.getD 34 none)) := rfl
theorem jmk35 : jMOk 35 860 72 859 19 = true := by decide +kernel
set_option maxRecDepth 100000 in
theorem jcd35 : lw_tbl[860]? = some (Cond.code (jYT.getD 35 objectInit) (jBytesT.getD 35 .empty) (jMaxT.getD 35 0) (jRetT.getD 35 none)) := rfl
theorem jmk36 : jMOk 36 868 72 867 20 = true := by decide +kernel
set_option maxRecDepth 100000 in
theorem jcd36 : lw_tbl[868]? = some (Cond.code (jYT.getD 36 objectInit) (jBytesT.getD 36 .empty) (jMaxT.getD 36 0) (jRetT.getD 36 none)) := rfl
theorem jmk37 : jMOk 37 873 72 872 21 = true := by decide +kernel
set_option maxRecDepth 100000 in
theorem jcd37 : lw_tbl[873]? = some (Cond.code (jYT.getD 37 objectInit) (jBytesT.getD 37 .empty) (jMaxT.getD 37 0) (jRetT.getD 37 none)) := rfl
theorem jmk38 : jMOk 38 269 70 268 0 = true := by decide +kernel
set_option maxRecDepth 100000 in
theorem jcd38 : lw_tbl[269]? = some (Cond.code (jYT.getD 38 objectInit) (jBytesT.getD 38 .empty) (jMaxT.getD 38 0) (jRetT.getD 38 none)) := rfl
theorem jmk39 : jMOk 39 668 70 666 667 = true := by decide +kernel
set_option maxRecDepth 100000 in
theorem jcd39 : lw_tbl[668]? = some (Cond.code (jYT.getD 39 objectInit) (jBytesT.getD 39 .empty) (jMaxT.getD 39 0) (jRetT.getD 39 none)) := rfl
theorem jmk40 : jMOk 40 840 70 838 839 = true := by decide +kernel
set_option maxRecDepth 100000 in
theorem jcd40 : lw_tbl[840]? = some (Cond.code (jYT.getD 40 objectInit) (jBytesT.getD 40 .empty) (jMaxT.getD 40 0) (jRetT.getD 40 none)) := rfl
theorem jmk41 : jMOk 41 664 70 662 663 = true := by decide +kernel
set_option maxRecDepth 100000 in
theorem jcd41 : lw_tbl[664]? = some (Cond.code (jYT.getD 41 objectInit) (jBytesT.getD 41 .empty) (jMaxT.getD 41 0) (jRetT.getD 41 none)) := rfl
theorem jmk42 : jMOk 42 673 70 671 672 = true := by decide +kernel
set_option maxRecDepth 100000 in
theorem jcd42 : lw_tbl[673]? = some (Cond.code (jYT.getD 42 objectInit) (jBytesT.getD 42 .empty) (jMaxT.getD 42 0) (jRetT.getD 42 none)) := rfl
theorem jmk43 : jMOk 43 706 70 704 705 = true := by decide +kernel
set_option maxRecDepth 100000 in
theorem jcd43 : lw_tbl[706]? = some (Cond.code (jYT.getD 43 objectInit) (jBytesT.getD 43 .empty) (jMaxT.getD 43 0) (jRetT.getD 43 none)) := rfl
theorem jmk44 : jMOk 44 677 70 676 8 = true := by decide +kernel
set_option maxRecDepth 100000 in
theorem jcd44 : lw_tbl[677]? = some (Cond.code (jYT.getD 44 objectInit) (jBytesT.getD 44 .empty) (jMaxT.getD 44 0) (jRetT.getD 44 none)) := rfl
theorem jmk45 : jMOk 45 686 70 685 9 = true := by decide +kernel
set_option maxRecDepth 100000 in
theorem jcd45 : lw_tbl[686]? = some (Cond.code (jYT.getD 45 objectInit) (jBytesT.getD 45 .empty) (jMaxT.getD 45 0) (jRetT.getD 45 none)) := rfl
theorem jmk46 : jMOk 46 690 70 689 10 = true := by decide +kernel
set_option maxRecDepth 100000 in
theorem jcd46 : lw_tbl[690]? = some (Cond.code (jYT.getD 46 objectInit) (jBytesT.getD 46 .empty) (jMaxT.getD 46 0) (jRetT.getD 46 none)) := rfl
theorem jmk47 : jMOk 47 698 70 697 11 = true := by decide +kernel
set_option maxRecDepth 100000 in
theorem jcd47 : lw_tbl[698]? = some (Cond.code (jYT.getD 47 objectInit) (jBytesT.getD 47 .empty) (jMaxT.getD 47 0) (jRetT.getD 47 none)) := rfl
theorem jmk48 : jMOk 48 372 73 371 0 = true := by decide +kernel
set_option maxRecDepth 100000 in
theorem jcd48 : lw_tbl[372]? = some (Cond.code (jYT.getD 48 objectInit) (jBytesT.getD 48 .empty) (jMaxT.getD 48 0) (jRetT.getD 48 none)) := rfl
theorem jmk49 : jMOk 49 883 73 881 882 = true := by decide +kernel
set_option maxRecDepth 100000 in
theorem jcd49 : lw_tbl[883]? = some (Cond.code (jYT.getD 49 objectInit) (jBytesT.getD 49 .empty) (jMaxT.getD 49 0) (jRetT.getD 49 none)) := rfl
theorem jmk50 : jMOk 50 907 73 905 906 = true := by decide +kernel
set_option maxRecDepth 100000 in
theorem jcd50 : lw_tbl[907]? = some (Cond.code (jYT.getD 50 objectInit) (jBytesT.getD 50 .empty) (jMaxT.getD 50 0) (jRetT.getD 50 none)) := rfl
theorem jmk51 : jMOk 51 917 73 915 916 = true := by decide +kernel
set_option maxRecDepth 100000 in
theorem jcd51 : lw_tbl[917]? = some (Cond.code (jYT.getD 51 objectInit) (jBytesT.getD 51 .empty) (jMaxT.getD 51 0) (jRetT.getD 51 none)) := rfl
theorem jmk52 : jMOk 52 926 73 924 925 = true := by decide +kernel
set_option maxRecDepth 100000 in
theorem jcd52 : lw_tbl[926]? = some (Cond.code (jYT.getD 52 objectInit) (jBytesT.getD 52 .empty) (jMaxT.getD 52 0) (jRetT.getD 52 none)) := rfl
theorem jmk53 : jMOk 53 930 73 929 23 = true := by decide +kernel
set_option maxRecDepth 100000 in
theorem jcd53 : lw_tbl[930]? = some (Cond.code (jYT.getD 53 objectInit) (jBytesT.getD 53 .empty) (jMaxT.getD 53 0) (jRetT.getD 53 none)) := rfl
theorem jmk54 : jMOk 54 958 73 956 957 = true := by decide +kernel
set_option maxRecDepth 100000 in
theorem jcd54 : lw_tbl[958]? = some (Cond.code (jYT.getD 54 objectInit) (jBytesT.getD 54 .empty) (jMaxT.getD 54 0) (jRetT.getD 54 none)) := rfl
theorem jmk55 : jMOk 55 972 73 970 971 = true := by decide +kernel
set_option maxRecDepth 100000 in
theorem jcd55 : lw_tbl[972]? = some (Cond.code (jYT.getD 55 objectInit) (jBytesT.getD 55 .empty) (jMaxT.getD 55 0) (jRetT.getD 55 none)) := rfl
theorem jmk56 : jMOk 56 962 73 961 24 = true := by decide +kernel
set_option maxRecDepth 100000 in
theorem jcd56 : lw_tbl[962]? = some (Cond.code (jYT.getD 56 objectInit) (jBytesT.getD 56 .empty) (jMaxT.getD 56 0) (jRetT.getD 56 none)) := rfl
theorem jmk57 : jMOk 57 896 73 895 22 = true := by decide +kernel
set_option maxRecDepth 100000 in
theorem jcd57 : lw_tbl[896]? = some (Cond.code (jYT.getD 57 objectInit) (jBytesT.getD 57 .empty) (jMaxT.getD 57 0) (jRetT.getD 57 none)) := rfl
theorem jmk58 : jMOk 58 102 66 101 0 = true := by decide +kernel
set_option maxRecDepth 100000 in
theorem jcd58 : lw_tbl[102]? = some (Cond.code (jYT.getD 58 objectInit) (jBytesT.getD 58 .empty) (jMaxT.getD 58 0) (jRetT.getD 58 none)) := rfl
theorem jmk59 : jMOk 59 507 66 505 506 = true := by decide +kernel
set_option maxRecDepth 100000 in
theorem jcd59 : lw_tbl[507]? = some (Cond.code (jYT.getD 59 objectInit) (jBytesT.getD 59 .empty) (jMaxT.getD 59 0) (jRetT.getD 59 none)) := rfl
theorem jmk60 : jMOk 60 475 66 473 474 = true := by decide +kernel
set_option maxRecDepth 100000 in
theorem jcd60 : lw_tbl[475]? = some (Cond.code (jYT.getD 60 objectInit) (jBytesT.getD 60 .empty) (jMaxT.getD 60 0) (jRetT.getD 60 none)) := rfl
theorem jmk61 : jMOk 61 551 66 549 550 = true := by decide +kernel
set_option maxRecDepth 100000 in
theorem jcd61 : lw_tbl[551]? = some (Cond.code (jYT.getD 61 objectInit) (jBytesT.getD 61 .empty) (jMaxT.getD 61 0) (jRetT.getD 61 none)) := rfl
theorem jmk62 : jMOk 62 784 66 782 783 = true := by decide +kernel
set_option maxRecDepth 100000 in
theorem jcd62 : lw_tbl[784]? = some (Cond.code (jYT.getD 62 objectInit) (jBytesT.getD 62 .empty) (jMaxT.getD 62 0) (jRetT.getD 62 none)) := rfl
theorem jmk63 : jMOk 63 560 66 558 559 = true := by decide +kernel
set_option maxRecDepth 100000 in
theorem jcd63 : lw_tbl[560]? = some (Cond.code (jYT.getD 63 objectInit) (jBytesT.getD 63 .empty) (jMaxT.getD 63 0) (jRetT.getD 63 none)) := rfl
theorem jmk64 : jMOk 64 735 66 733 734 = true := by decide +kernel
set_option maxRecDepth 100000 in
theorem jcd64 : lw_tbl[735]? = some (Cond.code (jYT.getD 64 objectInit) (jBytesT.getD 64 .empty) (jMaxT.getD 64 0) (jRetT.getD 64 none)) := rfl
theorem jmk65 : jMOk 65 487 66 485 486 = true := by decide +kernel
set_option maxRecDepth 100000 in
theorem jcd65 : lw_tbl[487]? = some (Cond.code (jYT.getD 65 objectInit) (jBytesT.getD 65 .empty) (jMaxT.getD 65 0) (jRetT.getD 65 none)) := rfl
theorem jmk66 : jMOk 66 494 66 492 493 = true := by decide +kernel
set_option maxRecDepth 100000 in
theorem jcd66 : lw_tbl[494]? = some (Cond.code (jYT.getD 66 objectInit) (jBytesT.getD 66 .empty) (jMaxT.getD 66 0) (jRetT.getD 66 none)) := rfl
theorem jmk67 : jMOk 67 576 66 574 575 = true := by decide +kernel
set_option maxRecDepth 100000 in
theorem jcd67 : lw_tbl[576]? = some (Cond.code (jYT.getD 67 objectInit) (jBytesT.getD 67 .empty) (jMaxT.getD 67 0) (jRetT.getD 67 none)) := rfl
theorem jmk68 : jMOk 68 304 71 303 0 = true := by decide +kernel
set_option maxRecDepth 100000 in
theorem jcd68 : lw_tbl[304]? = some (Cond.code (jYT.getD 68 objectInit) (jBytesT.getD 68 .empty) (jMaxT.getD 68 0) (jRetT.getD 68 none)) := rfl
theorem jmk69 : jMOk 69 812 71 810 811 = true := by decide +kernel
set_option maxRecDepth 100000 in
theorem jcd69 : lw_tbl[812]? = some (Cond.code (jYT.getD 69 objectInit) (jBytesT.getD 69 .empty) (jMaxT.getD 69 0) (jRetT.getD 69 none)) := rfl
theorem jmk70 : jMOk 70 826 71 825 0 = true := by decide +kernel
set_option maxRecDepth 100000 in
theorem jcd70 : lw_tbl[826]? = some (Cond.code (jYT.getD 70 objectInit) (jBytesT.getD 70 .empty) (jMaxT.getD 70 0) (jRetT.getD 70 none)) := rfl
theorem jmk71 : jMOk 71 831 71 830 16 = true := by decide +kernel
set_option maxRecDepth 100000 in
theorem jcd71 : lw_tbl[831]? = some (Cond.code (jYT.getD 71 objectInit) (jBytesT.getD 71 .empty) (jMaxT.getD 71 0) (jRetT.getD 71 none)) := rfl
theorem jmk72 : jMOk 72 835 71 834 17 = true := by decide +kernel
set_option maxRecDepth 100000 in
theorem jcd72 : lw_tbl[835]? = some (Cond.code (jYT.getD 72 objectInit) (jBytesT.getD 72 .empty) (jMaxT.getD 72 0) (jRetT.getD 72 none)) := rfl
theorem jmk73 : jMOk 73 821 71 820 15 = true := by decide +kernel
set_option maxRecDepth 100000 in
theorem jcd73 : lw_tbl[821]? = some (Cond.code (jYT.getD 73 objectInit) (jBytesT.getD 73 .empty) (jMaxT.getD 73 0) (jRetT.getD 73 none)) := rfl
theorem jmk74 : jMOk 74 847 71 846 18 = true := by decide +kernel
set_option maxRecDepth 100000 in
theorem jcd74 : lw_tbl[847]? = some (Cond.code (jYT.getD 74 objectInit) (jBytesT.getD 74 .empty) (jMaxT.getD 74 0) (jRetT.getD 74 none)) := rfl
theorem jmk75 : jMOk 75 250 69 249 0 = true := by decide +kernel
set_option maxRecDepth 100000 in
theorem jcd75 : lw_tbl[250]? = some (Cond.code (jYT.getD 75 objectInit) (jBytesT.getD 75 .empty) (jMaxT.getD 75 0) (jRetT.getD 75 none)) := rfl
theorem jmk76 : jMOk 76 945 69 943 944 = true := by decide +kernel
set_option maxRecDepth 100000 in
theorem jcd76 : lw_tbl[945]? = some (Cond.code (jYT.getD 76 objectInit) (jBytesT.getD 76 .empty) (jMaxT.getD 76 0) (jRetT.getD 76 none)) := rfl
theorem jmk77 : jMOk 77 967 69 965 966 = true := by decide +kernel
set_option maxRecDepth 100000 in
theorem jcd77 : lw_tbl[967]? = some (Cond.code (jYT.getD 77 objectInit) (jBytesT.getD 77 .empty) (jMaxT.getD 77 0) (jRetT.getD 77 none)) := rfl
theorem jmk78 : jMOk 78 96 65 95 0 = true := by decide +kernel
set_option maxRecDepth 100000 in
theorem jcd78 : lw_tbl[96]? = some (Cond.code (jYT.getD 78 objectInit) (jBytesT.getD 78 .empty) (jMaxT.getD 78 0) (jRetT.getD 78 none)) := rfl
theorem jmk79 : jMOk 79 471 65 469 470 = true := by decide +kernel
set_option maxRecDepth 100000 in
theorem jcd79 : lw_tbl[471]? = some (Cond.code (jYT.getD 79 objectInit) (jBytesT.getD 79 .empty) (jMaxT.getD 79 0) (jRetT.getD 79 none)) := rfl
theorem jmk80 : jMOk 80 479 65 477 478 = true := by decide +kernel
set_option maxRecDepth 100000 in
theorem jcd80 : lw_tbl[479]? = some (Cond.code (jYT.getD 80 objectInit) (jBytesT.getD 80 .empty) (jMaxT.getD 80 0) (jRetT.getD 80 none)) := rfl
theorem jmk81 : jMOk 81 499 65 498 0 = true := by decide +kernel
set_option maxRecDepth 100000 in
theorem jcd81 : lw_tbl[499]? = some (Cond.code (jYT.getD 81 objectInit) (jBytesT.getD 81 .empty) (jMaxT.getD 81 0) (jRetT.getD 81 none)) := rfl
theorem jmk82 : jMOk 82 511 65 510 2 = true := by decide +kernel
set_option maxRecDepth 100000 in
theorem jcd82 : lw_tbl[511]? = some (Cond.code (jYT.getD 82 objectInit) (jBytesT.getD 82 .empty) (jMaxT.getD 82 0) (jRetT.getD 82 none)) := rfl
theorem jmk83 : jMOk 83 530 65 529 4 = true := by decide +kernel
set_option maxRecDepth 100000 in
theorem jcd83 : lw_tbl[530]? = some (Cond.code (jYT.getD 83 objectInit) (jBytesT.getD 83 .empty) (jMaxT.getD 83 0) (jRetT.getD 83 none)) := rfl
theorem jmk84 : jMOk 84 538 65 537 5 = true := by decide +kernel
set_option maxRecDepth 100000 in
theorem jcd84 : lw_tbl[538]? = some (Cond.code (jYT.getD 84 objectInit) (jBytesT.getD 84 .empty) (jMaxT.getD 84 0) (jRetT.getD 84 none)) := rfl
theorem jmk85 : jMOk 85 564 65 563 6 = true := by decide +kernel
set_option maxRecDepth 100000 in
theorem jcd85 : lw_tbl[564]? = some (Cond.code (jYT.getD 85 objectInit) (jBytesT.getD 85 .empty) (jMaxT.getD 85 0) (jRetT.getD 85 none)) := rfl
theorem jmk86 : jMOk 86 515 65 514 3 = true := by decide +kernel
set_option maxRecDepth 100000 in
theorem jcd86 : lw_tbl[515]? = some (Cond.code (jYT.getD 86 objectInit) (jBytesT.getD 86 .empty) (jMaxT.getD 86 0) (jRetT.getD 86 none)) := rfl
theorem jmk87 : jMOk 87 503 65 502 1 = true := by decide +kernel
set_option maxRecDepth 100000 in
theorem jcd87 : lw_tbl[503]? = some (Cond.code (jYT.getD 87 objectInit) (jBytesT.getD 87 .empty) (jMaxT.getD 87 0) (jRetT.getD 87 none)) := rfl
theorem jmk88 : jMOk 88 518 65 517 0 = true := by decide +kernel
set_option maxRecDepth 100000 in
theorem jcd88 : lw_tbl[518]? = some (Cond.code (jYT.getD 88 objectInit) (jBytesT.getD 88 .empty) (jMaxT.getD 88 0) (jRetT.getD 88 none)) := rfl
theorem jmk89 : jMOk 89 88 64 87 0 = true := by decide +kernel
set_option maxRecDepth 100000 in
theorem jcd89 : lw_tbl[88]? = some (Cond.code (jYT.getD 89 objectInit) (jBytesT.getD 89 .empty) (jMaxT.getD 89 0) (jRetT.getD 89 none)) := rfl
theorem jmk90 : jMOk 90 621 64 619 620 = true := by decide +kernel
set_option maxRecDepth 100000 in
theorem jcd90 : lw_tbl[621]? = some (Cond.code (jYT.getD 90 objectInit) (jBytesT.getD 90 .empty) (jMaxT.getD 90 0) (jRetT.getD 90 none)) := rfl
theorem jmk91 : jMOk 91 626 64 624 625 = true := by decide +kernel
set_option maxRecDepth 100000 in
theorem jcd91 : lw_tbl[626]? = some (Cond.code (jYT.getD 91 objectInit) (jBytesT.getD 91 .empty) (jMaxT.getD 91 0) (jRetT.getD 91 none)) := rfl
theorem jmk92 : jMOk 92 630 64 628 629 = true := by decide +kernel
set_option maxRecDepth 100000 in
theorem jcd92 : lw_tbl[630]? = some (Cond.code (jYT.getD 92 objectInit) (jBytesT.getD 92 .empty) (jMaxT.getD 92 0) (jRetT.getD 92 none)) := rfl
theorem jmk93 : jMOk 93 634 64 632 633 = true := by decide +kernel
set_option maxRecDepth 100000 in
theorem jcd93 : lw_tbl[634]? = some (Cond.code (jYT.getD 93 objectInit) (jBytesT.getD 93 .empty) (jMaxT.getD 93 0) (jRetT.getD 93 none)) := rfl
theorem jmk94 : jMOk 94 638 64 636 637 = true := by decide +kernel
set_option maxRecDepth 100000 in
theorem jcd94 : lw_tbl[638]? = some (Cond.code (jYT.getD 94 objectInit) (jBytesT.getD 94 .empty) (jMaxT.getD 94 0) (jRetT.getD 94 none)) := rfl
theorem jmk95 : jMOk 95 648 64 646 647 = true := by decide +kernel
set_option maxRecDepth 100000 in
theorem jcd95 : lw_tbl[648]? = some (Cond.code (jYT.getD 95 objectInit) (jBytesT.getD 95 .empty) (jMaxT.getD 95 0) (jRetT.getD 95 none)) := rfl
theorem jmk96 : jMOk 96 660 64 658 659 = true := by decide +kernel
set_option maxRecDepth 100000 in
theorem jcd96 : lw_tbl[660]? = some (Cond.code (jYT.getD 96 objectInit) (jBytesT.getD 96 .empty) (jMaxT.getD 96 0) (jRetT.getD 96 none)) := rfl
theorem jmk97 : jMOk 97 702 64 700 701 = true := by decide +kernel
set_option maxRecDepth 100000 in
theorem jcd97 : lw_tbl[702]? = some (Cond.code (jYT.getD 97 objectInit) (jBytesT.getD 97 .empty) (jMaxT.getD 97 0) (jRetT.getD 97 none)) := rfl
theorem jmk98 : jMOk 98 710 64 708 709 = true := by decide +kernel
set_option maxRecDepth 100000 in
theorem jcd98 : lw_tbl[710]? = some (Cond.code (jYT.getD 98 objectInit) (jBytesT.getD 98 .empty) (jMaxT.getD 98 0) (jRetT.getD 98 none)) := rfl
theorem jmk99 : jMOk 99 726 64 724 725 = true := by decide +kernel
set_option maxRecDepth 100000 in
theorem jcd99 : lw_tbl[726]? = some (Cond.code (jYT.getD 99 objectInit) (jBytesT.getD 99 .empty) (jMaxT.getD 99 0) (jRetT.getD 99 none)) := rfl
theorem jmk100 : jMOk 100 739 64 737 738 = true := by decide +kernel
set_option maxRecDepth 100000 in
theorem jcd100 : lw_tbl[739]? = some (Cond.code (jYT.getD 100 objectInit) (jBytesT.getD 100 .empty) (jMaxT.getD 100 0) (jRetT.getD 100 none)) := rfl
theorem jmk101 : jMOk 101 775 64 773 774 = true := by decide +kernel
set_option maxRecDepth 100000 in
theorem jcd101 : lw_tbl[775]? = some (Cond.code (jYT.getD 101 objectInit) (jBytesT.getD 101 .empty) (jMaxT.getD 101 0) (jRetT.getD 101 none)) := rfl
theorem jmk102 : jMOk 102 788 64 786 787 = true := by decide +kernel
set_option maxRecDepth 100000 in
theorem jcd102 : lw_tbl[788]? = some (Cond.code (jYT.getD 102 objectInit) (jBytesT.getD 102 .empty) (jMaxT.getD 102 0) (jRetT.getD 102 none)) := rfl
theorem jmk103 : jMOk 103 800 64 798 799 = true := by decide +kernel
set_option maxRecDepth 100000 in
theorem jcd103 : lw_tbl[800]? = some (Cond.code (jYT.getD 103 objectInit) (jBytesT.getD 103 .empty) (jMaxT.getD 103 0) (jRetT.getD 103 none)) := rfl
theorem jmk104 : jMOk 104 808 64 806 807 = true := by decide +kernel
set_option maxRecDepth 100000 in
theorem jcd104 : lw_tbl[808]? = some (Cond.code (jYT.getD 104 objectInit) (jBytesT.getD 104 .empty) (jMaxT.getD 104 0) (jRetT.getD 104 none)) := rfl
theorem jmk105 : jMOk 105 852 64 850 851 = true := by decide +kernel
set_option maxRecDepth 100000 in
theorem jcd105 : lw_tbl[852]? = some (Cond.code (jYT.getD 105 objectInit) (jBytesT.getD 105 .empty) (jMaxT.getD 105 0) (jRetT.getD 105 none)) := rfl
theorem jmk106 : jMOk 106 879 64 877 878 = true := by decide +kernel
set_option maxRecDepth 100000 in
theorem jcd106 : lw_tbl[879]? = some (Cond.code (jYT.getD 106 objectInit) (jBytesT.getD 106 .empty) (jMaxT.getD 106 0) (jRetT.getD 106 none)) := rfl
theorem jmk107 : jMOk 107 903 64 901 902 = true := by decide +kernel
set_option maxRecDepth 100000 in
theorem jcd107 : lw_tbl[903]? = some (Cond.code (jYT.getD 107 objectInit) (jBytesT.getD 107 .empty) (jMaxT.getD 107 0) (jRetT.getD 107 none)) := rfl
theorem jmk108 : jMOk 108 913 64 911 912 = true := by decide +kernel
set_option maxRecDepth 100000 in
theorem jcd108 : lw_tbl[913]? = some (Cond.code (jYT.getD 108 objectInit) (jBytesT.getD 108 .empty) (jMaxT.getD 108 0) (jRetT.getD 108 none)) := rfl
theorem jmk109 : jMOk 109 922 64 920 921 = true := by decide +kernel
set_option maxRecDepth 100000 in
theorem jcd109 : lw_tbl[922]? = some (Cond.code (jYT.getD 109 objectInit) (jBytesT.getD 109 .empty) (jMaxT.getD 109 0) (jRetT.getD 109 none)) := rfl
theorem jmk110 : jMOk 110 941 64 939 940 = true := by decide +kernel
set_option maxRecDepth 100000 in
theorem jcd110 : lw_tbl[941]? = some (Cond.code (jYT.getD 110 objectInit) (jBytesT.getD 110 .empty) (jMaxT.getD 110 0) (jRetT.getD 110 none)) := rfl
theorem jmk111 : jMOk 111 950 64 948 949 = true := by decide +kernel
set_option maxRecDepth 100000 in
theorem jcd111 : lw_tbl[950]? = some (Cond.code (jYT.getD 111 objectInit) (jBytesT.getD 111 .empty) (jMaxT.getD 111 0) (jRetT.getD 111 none)) := rfl
theorem jmk112 : jMOk 112 954 64 952 953 = true := by decide +kernel
set_option maxRecDepth 100000 in
theorem jcd112 : lw_tbl[954]? = some (Cond.code (jYT.getD 112 objectInit) (jBytesT.getD 112 .empty) (jMaxT.getD 112 0) (jRetT.getD 112 none)) := rfl
theorem jmk113 : jMOk 113 976 64 974 975 = true := by decide +kernel
set_option maxRecDepth 100000 in
theorem jcd113 : lw_tbl[976]? = some (Cond.code (jYT.getD 113 objectInit) (jBytesT.getD 113 .empty) (jMaxT.getD 113 0) (jRetT.getD 113 none)) := rfl
theorem jmk114 : jMOk 114 997 64 995 996 = true := by decide +kernel
set_option maxRecDepth 100000 in
theorem jcd114 : lw_tbl[997]? = some (Cond.code (jYT.getD 114 objectInit) (jBytesT.getD 114 .empty) (jMaxT.getD 114 0) (jRetT.getD 114 none)) := rfl
theorem jmk115 : jMOk 115 1022 64 1020 1021 = true := by decide +kernel
set_option maxRecDepth 100000 in
theorem jcd115 : lw_tbl[1022]? = some (Cond.code (jYT.getD 115 objectInit) (jBytesT.getD 115 .empty) (jMaxT.getD 115 0) (jRetT.getD 115 none)) := rfl
theorem jmk116 : jMOk 116 1026 64 1024 1025 = true := by decide +kernel
set_option maxRecDepth 100000 in
theorem jcd116 : lw_tbl[1026]? = some (Cond.code (jYT.getD 116 objectInit) (jBytesT.getD 116 .empty) (jMaxT.getD 116 0) (jRetT.getD 116 none)) := rfl
theorem jmk117 : jMOk 117 1030 64 1028 1029 = true := by decide +kernel
set_option maxRecDepth 100000 in
theorem jcd117 : lw_tbl[1030]? = some (Cond.code (jYT.getD 117 objectInit) (jBytesT.getD 117 .empty) (jMaxT.getD 117 0) (jRetT.getD 117 none)) := rfl
theorem jmk118 : jMOk 118 568 64 567 7 = true := by decide +kernel
set_option maxRecDepth 100000 in
theorem jcd118 : lw_tbl[568]? = some (Cond.code (jYT.getD 118 objectInit) (jBytesT.getD 118 .empty) (jMaxT.getD 118 0) (jRetT.getD 118 none)) := rfl
theorem jmk119 : jMOk 119 715 64 714 12 = true := by decide +kernel
set_option maxRecDepth 100000 in
theorem jcd119 : lw_tbl[715]? = some (Cond.code (jYT.getD 119 objectInit) (jBytesT.getD 119 .empty) (jMaxT.getD 119 0) (jRetT.getD 119 none)) := rfl
theorem jmk120 : jMOk 120 521 64 520 0 = true := by decide +kernel
set_option maxRecDepth 100000 in
theorem jcd120 : lw_tbl[521]? = some (Cond.code (jYT.getD 120 objectInit) (jBytesT.getD 120 .empty) (jMaxT.getD 120 0) (jRetT.getD 120 none)) := rfl
theorem jmk121 : jMOk 121 682 64 681 0 = true := by decide +kernel
set_option maxRecDepth 100000 in
theorem jcd121 : lw_tbl[682]? = some (Cond.code (jYT.getD 121 objectInit) (jBytesT.getD 121 .empty) (jMaxT.getD 121 0) (jRetT.getD 121 none)) := rfl
theorem jmk122 : jMOk 122 1036 82 1035 0 = true := by decide +kernel
set_option maxRecDepth 100000 in
theorem jcd122 : lw_tbl[1036]? = some (Cond.code (jYT.getD 122 objectInit) (jBytesT.getD 122 .empty) (jMaxT.getD 122 0) (jRetT.getD 122 none)) := rfl
theorem jmk123 : jMOk 123 1156 82 1155 0 = true := by decide +kernel
set_option maxRecDepth 100000 in
theorem jcd123 : lw_tbl[1156]? = some (Cond.code (jYT.getD 123 objectInit) (jBytesT.getD 123 .empty) (jMaxT.getD 123 0) (jRetT.getD 123 none)) := rfl
theorem jmk124 : jMOk 124 1153 82 1151 1152 = true := by decide +kernel
set_option maxRecDepth 100000 in
theorem jcd124 : lw_tbl[1153]? = some (Cond.code (jYT.getD 124 objectInit) (jBytesT.getD 124 .empty) (jMaxT.getD 124 0) (jRetT.getD 124 none)) := rfl
theorem jmk125 : jMOk 125 1160 82 1158 1159 = true := by decide +kernel
set_option maxRecDepth 100000 in
theorem jcd125 : lw_tbl[1160]? = some (Cond.code (jYT.getD 125 objectInit) (jBytesT.getD 125 .empty) (jMaxT.getD 125 0) (jRetT.getD 125 none)) := rfl
theorem jmk126 : jMOk 126 1176 82 1175 33 = true := by decide +kernel
set_option maxRecDepth 100000 in
theorem jcd126 : lw_tbl[1176]? = some (Cond.code (jYT.getD 126 objectInit) (jBytesT.getD 126 .empty) (jMaxT.getD 126 0) (jRetT.getD 126 none)) := rfl
theorem jmk127 : jMOk 127 1188 82 1187 36 = true := by decide +kernel
set_option maxRecDepth 100000 in
theorem jcd127 : lw_tbl[1188]? = some (Cond.code (jYT.getD 127 objectInit) (jBytesT.getD 127 .empty) (jMaxT.getD 127 0) (jRetT.getD 127 none)) := rfl
theorem jmk128 : jMOk 128 1192 82 1191 37 = true := by decide +kernel
set_option maxRecDepth 100000 in
theorem jcd128 : lw_tbl[1192]? = some (Cond.code (jYT.getD 128 objectInit) (jBytesT.getD 128 .empty) (jMaxT.getD 128 0) (jRetT.getD 128 none)) := rfl
theorem jmk129 : jMOk 129 1184 82 1183 35 = true := by decide +kernel
set_option maxRecDepth 100000 in
theorem jcd129 : lw_tbl[1184]? = some (Cond.code (jYT.getD 129 objectInit) (jBytesT.getD 129 .empty) (jMaxT.getD 129 0) (jRetT.getD 129 none)) := rfl
theorem jmk130 : jMOk 130 1180 82 1179 34 = true := by decide +kernel
set_option maxRecDepth 100000 in
theorem jcd130 : lw_tbl[1180]? = some (Cond.code (jYT.getD 130 objectInit) (jBytesT.getD 130 .empty) (jMaxT.getD 130 0) (jRetT.getD 130 none)) := rfl
theorem jmk131 : jMOk 131 1196 82 1195 38 = true := by decide +kernel
set_option maxRecDepth 100000 in
theorem jcd131 : lw_tbl[1196]? = some (Cond.code (jYT.getD 131 objectInit) (jBytesT.getD 131 .empty) (jMaxT.getD 131 0) (jRetT.getD 131 none)) := rfl
theorem jmk132 : jMOk 132 1200 82 1199 39 = true := by decide +kernel
set_option maxRecDepth 100000 in
theorem jcd132 : lw_tbl[1200]? = some (Cond.code (jYT.getD 132 objectInit) (jBytesT.getD 132 .empty) (jMaxT.getD 132 0) (jRetT.getD 132 none)) := rfl
theorem jmk133 : jMOk 133 1172 82 1171 32 = true := by decide +kernel
set_option maxRecDepth 100000 in
theorem jcd133 : lw_tbl[1172]? = some (Cond.code (jYT.getD 133 objectInit) (jBytesT.getD 133 .empty) (jMaxT.getD 133 0) (jRetT.getD 133 none)) := rfl
theorem jmk134 : jMOk 134 1168 82 1167 31 = true := by decide +kernel
set_option maxRecDepth 100000 in
theorem jcd134 : lw_tbl[1168]? = some (Cond.code (jYT.getD 134 objectInit) (jBytesT.getD 134 .empty) (jMaxT.getD 134 0) (jRetT.getD 134 none)) := rfl
theorem jmk135 : jMOk 135 1164 82 1162 1163 = true := by decide +kernel
set_option maxRecDepth 100000 in
theorem jcd135 : lw_tbl[1164]? = some (Cond.code (jYT.getD 135 objectInit) (jBytesT.getD 135 .empty) (jMaxT.getD 135 0) (jRetT.getD 135 none)) := rfl
theorem jmk136 : jMOk 136 1045 82 1044 27 = true := by decide +kernel
set_option maxRecDepth 100000 in
theorem jcd136 : lw_tbl[1045]? = some (Cond.code (jYT.getD 136 objectInit) (jBytesT.getD 136 .empty) (jMaxT.getD 136 0) (jRetT.getD 136 none)) := rfl
theorem jmk137 : jMOk 137 1049 82 1048 28 = true := by decide +kernel
set_option maxRecDepth 100000 in
theorem jcd137 : lw_tbl[1049]? = some (Cond.code (jYT.getD 137 objectInit) (jBytesT.getD 137 .empty) (jMaxT.getD 137 0) (jRetT.getD 137 none)) := rfl
theorem jmk138 : jMOk 138 1053 82 1052 29 = true := by decide +kernel
set_option maxRecDepth 100000 in
theorem jcd138 : lw_tbl[1053]? = some (Cond.code (jYT.getD 138 objectInit) (jBytesT.getD 138 .empty) (jMaxT.getD 138 0) (jRetT.getD 138 none)) := rfl
theorem jmk139 : jMOk 139 1041 82 1040 26 = true := by decide +kernel
set_option maxRecDepth 100000 in
theorem jcd139 : lw_tbl[1041]? = some (Cond.code (jYT.getD 139 objectInit) (jBytesT.getD 139 .empty) (jMaxT.getD 139 0) (jRetT.getD 139 none)) := rfl
theorem jmk140 : jMOk 140 1057 82 1056 30 = true := by decide +kernel
set_option maxRecDepth 100000 in
theorem jcd140 : lw_tbl[1057]? = some (Cond.code (jYT.getD 140 objectInit) (jBytesT.getD 140 .empty) (jMaxT.getD 140 0) (jRetT.getD 140 none)) := rfl
theorem jmk141 : jMOk 141 1204 82 1202 1203 = true := by decide +kernel
set_option maxRecDepth 100000 in
theorem jcd141 : lw_tbl[1204]? = some (Cond.code (jYT.getD 141 objectInit) (jBytesT.getD 141 .empty) (jMaxT.getD 141 0) (jRetT.getD 141 none)) := rfl
theorem jmk142 : jMOk 142 1327 82 1326 55 = true := by decide +kernel
set_option maxRecDepth 100000 in
theorem jcd142 : lw_tbl[1327]? = some (Cond.code (jYT.getD 142 objectInit) (jBytesT.getD 142 .empty) (jMaxT.getD 142 0) (jRetT.getD 142 none)) := rfl
theorem jmk143 : jMOk 143 1212 82 1211 40 = true := by decide +kernel
set_option maxRecDepth 100000 in
theorem jcd143 : lw_tbl[1212]? = some (Cond.code (jYT.getD 143 objectInit) (jBytesT.getD 143 .empty) (jMaxT.getD 143 0) (jRetT.getD 143 none)) := rfl
theorem jmk144 : jMOk 144 1223 82 1222 41 = true := by decide +kernel
set_option maxRecDepth 100000 in
theorem jcd144 : lw_tbl[1223]? = some (Cond.code (jYT.getD 144 objectInit) (jBytesT.getD 144 .empty) (jMaxT.getD 144 0) (jRetT.getD 144 none)) := rfl
theorem jmk145 : jMOk 145 1215 82 1214 0 = true := by decide +kernel
set_option maxRecDepth 100000 in
theorem jcd145 : lw_tbl[1215]? = some (Cond.code (jYT.getD 145 objectInit) (jBytesT.getD 145 .empty) (jMaxT.getD 145 0) (jRetT.getD 145 none)) := rfl
theorem jmk146 : jMOk 146 1227 82 1226 42 = true := by decide +kernel
set_option maxRecDepth 100000 in
theorem jcd146 : lw_tbl[1227]? = some (Cond.code (jYT.getD 146 objectInit) (jBytesT.getD 146 .empty) (jMaxT.getD 146 0) (jRetT.getD 146 none)) := rfl
theorem jmk147 : jMOk 147 1354 82 1353 0 = true := by decide +kernel
set_option maxRecDepth 100000 in
theorem jcd147 : lw_tbl[1354]? = some (Cond.code (jYT.getD 147 objectInit) (jBytesT.getD 147 .empty) (jMaxT.getD 147 0) (jRetT.getD 147 none)) := rfl
theorem jmk148 : jMOk 148 1289 82 1288 51 = true := by decide +kernel
set_option maxRecDepth 100000 in
theorem jcd148 : lw_tbl[1289]? = some (Cond.code (jYT.getD 148 objectInit) (jBytesT.getD 148 .empty) (jMaxT.getD 148 0) (jRetT.getD 148 none)) := rfl
theorem jmk149 : jMOk 149 1370 82 1369 60 = true := by decide +kernel
set_option maxRecDepth 100000 in
theorem jcd149 : lw_tbl[1370]? = some (Cond.code (jYT.getD 149 objectInit) (jBytesT.getD 149 .empty) (jMaxT.getD 149 0) (jRetT.getD 149 none)) := rfl
theorem jmk150 : jMOk 150 1247 82 1246 46 = true := by decide +kernel
set_option maxRecDepth 100000 in
theorem jcd150 : lw_tbl[1247]? = some (Cond.code (jYT.getD 150 objectInit) (jBytesT.getD 150 .empty) (jMaxT.getD 150 0) (jRetT.getD 150 none)) := rfl
theorem jmk151 : jMOk 151 1239 82 1238 44 = true := by decide +kernel
set_option maxRecDepth 100000 in
theorem jcd151 : lw_tbl[1239]? = some (Cond.code (jYT.getD 151 objectInit) (jBytesT.getD 151 .empty) (jMaxT.getD 151 0) (jRetT.getD 151 none)) := rfl
theorem jmk152 : jMOk 152 1251 82 1250 47 = true := by decide +kernel
set_option maxRecDepth 100000 in
theorem jcd152 : lw_tbl[1251]? = some (Cond.code (jYT.getD 152 objectInit) (jBytesT.getD 152 .empty) (jMaxT.getD 152 0) (jRetT.getD 152 none)) := rfl
theorem jmk153 : jMOk 153 1243 82 1242 45 = true := by decide +kernel
set_option maxRecDepth 100000 in
theorem jcd153 : lw_tbl[1243]? = some (Cond.code (jYT.getD 153 objectInit) (jBytesT.getD 153 .empty) (jMaxT.getD 153 0) (jRetT.getD 153 none)) := rfl
theorem jmk154 : jMOk 154 1235 82 1234 43 = true := by decide +kernel
set_option maxRecDepth 100000 in
theorem jcd154 : lw_tbl[1235]? = some (Cond.code (jYT.getD 154 objectInit) (jBytesT.getD 154 .empty) (jMaxT.getD 154 0) (jRetT.getD 154 none)) := rfl
theorem jmk155 : jMOk 155 1259 82 1258 48 = true := by decide +kernel
set_option maxRecDepth 100000 in
theorem jcd155 : lw_tbl[1259]? = some (Cond.code (jYT.getD 155 objectInit) (jBytesT.getD 155 .empty) (jMaxT.getD 155 0) (jRetT.getD 155 none)) := rfl
theorem jmk156 : jMOk 156 1297 82 1296 53 = true := by decide +kernel
set_option maxRecDepth 100000 in
theorem jcd156 : lw_tbl[1297]? = some (Cond.code (jYT.getD 156 objectInit) (jBytesT.getD 156 .empty) (jMaxT.getD 156 0) (jRetT.getD 156 none)) := rfl
theorem jmk157 : jMOk 157 1285 82 1284 50 = true := by decide +kernel
set_option maxRecDepth 100000 in
theorem jcd157 : lw_tbl[1285]? = some (Cond.code (jYT.getD 157 objectInit) (jBytesT.getD 157 .empty) (jMaxT.getD 157 0) (jRetT.getD 157 none)) := rfl
theorem jmk158 : jMOk 158 1293 82 1292 52 = true := by decide +kernel
set_option maxRecDepth 100000 in
theorem jcd158 : lw_tbl[1293]? = some (Cond.code (jYT.getD 158 objectInit) (jBytesT.getD 158 .empty) (jMaxT.getD 158 0) (jRetT.getD 158 none)) := rfl
theorem jmk159 : jMOk 159 1208 82 1206 1207 = true := by decide +kernel
set_option maxRecDepth 100000 in
theorem jcd159 : lw_tbl[1208]? = some (Cond.code (jYT.getD 159 objectInit) (jBytesT.getD 159 .empty) (jMaxT.getD 159 0) (jRetT.getD 159 none)) := rfl
theorem jmk160 : jMOk 160 1219 82 1217 1218 = true := by decide +kernel
set_option maxRecDepth 100000 in
theorem jcd160 : lw_tbl[1219]? = some (Cond.code (jYT.getD 160 objectInit) (jBytesT.getD 160 .empty) (jMaxT.getD 160 0) (jRetT.getD 160 none)) := rfl
theorem jmk161 : jMOk 161 1231 82 1229 1230 = true := by decide +kernel
set_option maxRecDepth 100000 in
theorem jcd161 : lw_tbl[1231]? = some (Cond.code (jYT.getD 161 objectInit) (jBytesT.getD 161 .empty) (jMaxT.getD 161 0) (jRetT.getD 161 none)) := rfl
theorem jmk162 : jMOk 162 1255 82 1253 1254 = true := by decide +kernel
set_option maxRecDepth 100000 in
theorem jcd162 : lw_tbl[1255]? = some (Cond.code (jYT.getD 162 objectInit) (jBytesT.getD 162 .empty) (jMaxT.getD 162 0) (jRetT.getD 162 none)) := rfl
theorem jmk163 : jMOk 163 1267 82 1266 49 = true := by decide +kernel
set_option maxRecDepth 100000 in
theorem jcd163 : lw_tbl[1267]? = some (Cond.code (jYT.getD 163 objectInit) (jBytesT.getD 163 .empty) (jMaxT.getD 163 0) (jRetT.getD 163 none)) := rfl
theorem jmk164 : jMOk 164 1270 82 1269 0 = true := by decide +kernel
set_option maxRecDepth 100000 in
theorem jcd164 : lw_tbl[1270]? = some (Cond.code (jYT.getD 164 objectInit) (jBytesT.getD 164 .empty) (jMaxT.getD 164 0) (jRetT.getD 164 none)) := rfl
theorem jmk165 : jMOk 165 1277 82 1276 0 = true := by decide +kernel
set_option maxRecDepth 100000 in
theorem jcd165 : lw_tbl[1277]? = some (Cond.code (jYT.getD 165 objectInit) (jBytesT.getD 165 .empty) (jMaxT.getD 165 0) (jRetT.getD 165 none)) := rfl
theorem jmk166 : jMOk 166 1305 82 1304 54 = true := by decide +kernel
set_option maxRecDepth 100000 in
theorem jcd166 : lw_tbl[1305]? = some (Cond.code (jYT.getD 166 objectInit) (jBytesT.getD 166 .empty) (jMaxT.getD 166 0) (jRetT.getD 166 none)) := rfl
theorem jmk167 : jMOk 167 1312 82 1311 0 = true := by decide +kernel
set_option maxRecDepth 100000 in
theorem jcd167 : lw_tbl[1312]? = some (Cond.code (jYT.getD 167 objectInit) (jBytesT.getD 167 .empty) (jMaxT.getD 167 0) (jRetT.getD 167 none)) := rfl
theorem jmk168 : jMOk 168 1315 82 1314 0 = true := by decide +kernel
set_option maxRecDepth 100000 in
theorem jcd168 : lw_tbl[1315]? = some (Cond.code (jYT.getD 168 objectInit) (jBytesT.getD 168 .empty) (jMaxT.getD 168 0) (jRetT.getD 168 none)) := rfl
theorem jmk169 : jMOk 169 1263 82 1261 1262 = true := by decide +kernel
set_option maxRecDepth 100000 in
theorem jcd169 : lw_tbl[1263]? = some (Cond.code (jYT.getD 169 objectInit) (jBytesT.getD 169 .empty) (jMaxT.getD 169 0) (jRetT.getD 169 none)) := rfl
theorem jmk170 : jMOk 170 1274 82 1272 1273 = true := by decide +kernel
set_option maxRecDepth 100000 in
theorem jcd170 : lw_tbl[1274]? = some (Cond.code (jYT.getD 170 objectInit) (jBytesT.getD 170 .empty) (jMaxT.getD 170 0) (jRetT.getD 170 none)) := rfl
theorem jmk171 : jMOk 171 1281 82 1279 1280 = true := by decide +kernel
set_option maxRecDepth 100000 in
theorem jcd171 : lw_tbl[1281]? = some (Cond.code (jYT.getD 171 objectInit) (jBytesT.getD 171 .empty) (jMaxT.getD 171 0) (jRetT.getD 171 none)) := rfl
theorem jmk172 : jMOk 172 1301 82 1299 1300 = true := by decide +kernel
set_option maxRecDepth 100000 in
theorem jcd172 : lw_tbl[1301]? = some (Cond.code (jYT.getD 172 objectInit) (jBytesT.getD 172 .empty) (jMaxT.getD 172 0) (jRetT.getD 172 none)) := rfl
theorem jmk173 : jMOk 173 1309 82 1307 1308 = true := by decide +kernel
set_option maxRecDepth 100000 in
theorem jcd173 : lw_tbl[1309]? = some (Cond.code (jYT.getD 173 objectInit) (jBytesT.getD 173 .empty) (jMaxT.getD 173 0) (jRetT.getD 173 none)) := rfl
theorem jmk174 : jMOk 174 1319 82 1317 1318 = true := by decide +kernel
set_option maxRecDepth 100000 in
theorem jcd174 : lw_tbl[1319]? = some (Cond.code (jYT.getD 174 objectInit) (jBytesT.getD 174 .empty) (jMaxT.getD 174 0) (jRetT.getD 174 none)) := rfl
theorem jmk175 : jMOk 175 1339 82 1338 58 = true := by decide +kernel
set_option maxRecDepth 100000 in
theorem jcd175 : lw_tbl[1339]? = some (Cond.code (jYT.getD 175 objectInit) (jBytesT.getD 175 .empty) (jMaxT.getD 175 0) (jRetT.getD 175 none)) := rfl
theorem jmk176 : jMOk 176 1335 82 1334 57 = true := by decide +kernel
set_option maxRecDepth 100000 in
theorem jcd176 : lw_tbl[1335]? = some (Cond.code (jYT.getD 176 objectInit) (jBytesT.getD 176 .empty) (jMaxT.getD 176 0) (jRetT.getD 176 none)) := rfl
theorem jmk177 : jMOk 177 1331 82 1330 56 = true := by decide +kernel
set_option maxRecDepth 100000 in
theorem jcd177 : lw_tbl[1331]? = some (Cond.code (jYT.getD 177 objectInit) (jBytesT.getD 177 .empty) (jMaxT.getD 177 0) (jRetT.getD 177 none)) := rfl
theorem jmk178 : jMOk 178 1323 82 1321 1322 = true := by decide +kernel
set_option maxRecDepth 100000 in
theorem jcd178 : lw_tbl[1323]? = some (Cond.code (jYT.getD 178 objectInit) (jBytesT.getD 178 .empty) (jMaxT.getD 178 0) (jRetT.getD 178 none)) := rfl
theorem jmk179 : jMOk 179 1347 82 1346 59 = true := by decide +kernel
set_option maxRecDepth 100000 in
theorem jcd179 : lw_tbl[1347]? = some (Cond.code (jYT.getD 179 objectInit) (jBytesT.getD 179 .empty) (jMaxT.getD 179 0) (jRetT.getD 179 none)) := rfl
theorem jmk180 : jMOk 180 1343 82 1341 1342 = true := by decide +kernel
set_option maxRecDepth 100000 in
theorem jcd180 : lw_tbl[1343]? = some (Cond.code (jYT.getD 180 objectInit) (jBytesT.getD 180 .empty) (jMaxT.getD 180 0) (jRetT.getD 180 none)) := rfl
theorem jmk181 : jMOk 181 1351 82 1349 1350 = true := by decide +kernel
set_option maxRecDepth 100000 in
theorem jcd181 : lw_tbl[1351]? = some (Cond.code (jYT.getD 181 objectInit) (jBytesT.getD 181 .empty) (jMaxT.getD 181 0) (jRetT.getD 181 none)) := rfl
theorem jmk182 : jMOk 182 1358 82 1356 1357 = true := by decide +kernel
set_option maxRecDepth 100000 in
theorem jcd182 : lw_tbl[1358]? = some (Cond.code (jYT.getD 182 objectInit) (jBytesT.getD 182 .empty) (jMaxT.getD 182 0) (jRetT.getD 182 none)) := rfl
theorem jmk183 : jMOk 183 1362 82 1360 1361 = true := by decide +kernel
set_option maxRecDepth 100000 in
theorem jcd183 : lw_tbl[1362]? = some (Cond.code (jYT.getD 183 objectInit) (jBytesT.getD 183 .empty) (jMaxT.getD 183 0) (jRetT.getD 183 none)) := rfl
theorem jmk184 : jMOk 184 1366 82 1364 1365 = true := by decide +kernel
set_option maxRecDepth 100000 in
theorem jcd184 : lw_tbl[1366]? = some (Cond.code (jYT.getD 184 objectInit) (jBytesT.getD 184 .empty) (jMaxT.getD 184 0) (jRetT.getD 184 none)) := rfl
theorem jmk185 : jMOk 185 1374 82 1372 1373 = true := by decide +kernel
set_option maxRecDepth 100000 in
theorem jcd185 : lw_tbl[1374]? = some (Cond.code (jYT.getD 185 objectInit) (jBytesT.getD 185 .empty) (jMaxT.getD 185 0) (jRetT.getD 185 none)) := rfl
theorem jmk186 : jMOk 186 1378 82 1376 1377 = true := by decide +kernel
set_option maxRecDepth 100000 in
theorem jcd186 : lw_tbl[1378]? = some (Cond.code (jYT.getD 186 objectInit) (jBytesT.getD 186 .empty) (jMaxT.getD 186 0) (jRetT.getD 186 none)) := rfl
theorem jmk187 : jMOk 187 1386 82 1385 61 = true := by decide +kernel
set_option maxRecDepth 100000 in
theorem jcd187 : lw_tbl[1386]? = some (Cond.code (jYT.getD 187 objectInit) (jBytesT.getD 187 .empty) (jMaxT.getD 187 0) (jRetT.getD 187 none)) := rfl
theorem jmk188 : jMOk 188 1382 82 1380 1381 = true := by decide +kernel
set_option maxRecDepth 100000 in
theorem jcd188 : lw_tbl[1382]? = some (Cond.code (jYT.getD 188 objectInit) (jBytesT.getD 188 .empty) (jMaxT.getD 188 0) (jRetT.getD 188 none)) := rfl
theorem jmk189 : jMOk 189 1390 82 1388 1389 = true := by decide +kernel
set_option maxRecDepth 100000 in
theorem jcd189 : lw_tbl[1390]? = some (Cond.code (jYT.getD 189 objectInit) (jBytesT.getD 189 .empty) (jMaxT.getD 189 0) (jRetT.getD 189 none)) := rfl
theorem jmk190 : jMOk 190 1401 82 1400 62 = true := by decide +kernel
set_option maxRecDepth 100000 in
theorem jcd190 : lw_tbl[1401]? = some (Cond.code (jYT.getD 190 objectInit) (jBytesT.getD 190 .empty) (jMaxT.getD 190 0) (jRetT.getD 190 none)) := rfl
theorem jmk191 : jMOk 191 1394 82 1392 1393 = true := by decide +kernel
set_option maxRecDepth 100000 in
theorem jcd191 : lw_tbl[1394]? = some (Cond.code (jYT.getD 191 objectInit) (jBytesT.getD 191 .empty) (jMaxT.getD 191 0) (jRetT.getD 191 none)) := rfl
theorem jmk192 : jMOk 192 1405 82 1403 1404 = true := by decide +kernel
set_option maxRecDepth 100000 in
theorem jcd192 : lw_tbl[1405]? = some (Cond.code (jYT.getD 192 objectInit) (jBytesT.getD 192 .empty) (jMaxT.getD 192 0) (jRetT.getD 192 none)) := rfl
theorem jmk193 : jMOk 193 1409 82 1407 1408 = true := by decide +kernel
set_option maxRecDepth 100000 in
theorem jcd193 : lw_tbl[1409]? = some (Cond.code (jYT.getD 193 objectInit) (jBytesT.getD 193 .empty) (jMaxT.getD 193 0) (jRetT.getD 193 none)) := rfl
theorem jmk194 : jMOk 194 1413 82 1411 1412 = true := by decide +kernel
set_option maxRecDepth 100000 in
theorem jcd194 : lw_tbl[1413]? = some (Cond.code (jYT.getD 194 objectInit) (jBytesT.getD 194 .empty) (jMaxT.getD 194 0) (jRetT.getD 194 none)) := rfl
theorem jmk195 : jMOk 195 886 83 885 0 = true := by decide +kernel
set_option maxRecDepth 100000 in
theorem jcd195 : lw_tbl[886]? = some (Cond.code (jYT.getD 195 objectInit) (jBytesT.getD 195 .empty) (jMaxT.getD 195 0) (jRetT.getD 195 none)) := rfl
theorem jmk196 : jMOk 196 490 79 489 0 = true := by decide +kernel
set_option maxRecDepth 100000 in
theorem jcd196 : lw_tbl[490]? = some (Cond.code (jYT.getD 196 objectInit) (jBytesT.getD 196 .empty) (jMaxT.getD 196 0) (jRetT.getD 196 none)) := rfl
theorem jmk197 : jMOk 197 817 71 816 14 = true := by decide +kernel
set_option maxRecDepth 100000 in
theorem jcd197 : lw_tbl[817]? = some (Cond.code (jYT.getD 197 objectInit) (jBytesT.getD 197 .empty) (jMaxT.getD 197 0) (jRetT.getD 197 none)) := rfl
theorem jMC_ok : ∀ m, m < 198 → ∃ a b c d, jMOk m a b c d = true ∧ lw_tbl[a]? = some (Cond.code (jYT.getD m objectInit) (jBytesT.getD m .empty) (jMaxT.getD m 0) (jRetT.getD m none))
  | 0, _ => ⟨397, 74, 396, 0, jmk0, jcd0⟩
  | 1, _ => ⟨980, 74, 978, 979, jmk1, jcd1⟩
  | 2, _ => ⟨987, 74, 986, 0, jmk2, jcd2⟩
  | 3, _ => ⟨983, 74, 982, 0, jmk3, jcd3⟩
  | 4, _ => ⟨993, 74, 992, 0, jmk4, jcd4⟩
  | 5, _ => ⟨1001, 74, 999, 1000, jmk5, jcd5⟩
  | 6, _ => ⟨1009, 74, 1008, 25, jmk6, jcd6⟩
  | 7, _ => ⟨113, 67, 112, 0, jmk7, jcd7⟩
  | 8, _ => ⟨483, 67, 481, 482, jmk8, jcd8⟩
  | 9, _ => ⟨572, 67, 570, 571, jmk9, jcd9⟩
  | 10, _ => ⟨525, 67, 523, 524, jmk10, jcd10⟩
  | 11, _ => ⟨534, 67, 532, 533, jmk11, jcd11⟩
  | 12, _ => ⟨542, 67, 540, 541, jmk12, jcd12⟩
  | 13, _ => ⟨652, 67, 650, 651, jmk13, jcd13⟩
  | 14, _ => ⟨644, 67, 642, 643, jmk14, jcd14⟩
  | 15, _ => ⟨656, 67, 654, 655, jmk15, jcd15⟩
  | 16, _ => ⟨547, 67, 545, 546, jmk16, jcd16⟩
  | 17, _ => ⟨556, 67, 554, 555, jmk17, jcd17⟩
  | 18, _ => ⟨730, 67, 728, 729, jmk18, jcd18⟩
  | 19, _ => ⟨779, 67, 777, 778, jmk19, jcd19⟩
  | 20, _ => ⟨792, 67, 790, 791, jmk20, jcd20⟩
  | 21, _ => ⟨796, 67, 794, 795, jmk21, jcd21⟩
  | 22, _ => ⟨747, 67, 745, 746, jmk22, jcd22⟩
  | 23, _ => ⟨936, 67, 934, 935, jmk23, jcd23⟩
  | 24, _ => ⟨761, 67, 759, 760, jmk24, jcd24⟩
  | 25, _ => ⟨743, 67, 741, 742, jmk25, jcd25⟩
  | 26, _ => ⟨752, 67, 750, 751, jmk26, jcd26⟩
  | 27, _ => ⟨771, 67, 769, 770, jmk27, jcd27⟩
  | 28, _ => ⟨757, 67, 755, 756, jmk28, jcd28⟩
  | 29, _ => ⟨766, 67, 765, 13, jmk29, jcd29⟩
  | 30, _ => ⟨230, 68, 229, 0, jmk30, jcd30⟩
  | 31, _ => ⟨719, 68, 717, 718, jmk31, jcd31⟩
  | 32, _ => ⟨804, 68, 802, 803, jmk32, jcd32⟩
  | 33, _ => ⟨342, 72, 341, 0, jmk33, jcd33⟩
  | 34, _ => ⟨856, 72, 854, 855, jmk34, jcd34⟩
  | 35, _ => ⟨860, 72, 859, 19, jmk35, jcd35⟩
  | 36, _ => ⟨868, 72, 867, 20, jmk36, jcd36⟩
  | 37, _ => ⟨873, 72, 872, 21, jmk37, jcd37⟩
  | 38, _ => ⟨269, 70, 268, 0, jmk38, jcd38⟩
  | 39, _ => ⟨668, 70, 666, 667, jmk39, jcd39⟩
  | 40, _ => ⟨840, 70, 838, 839, jmk40, jcd40⟩
  | 41, _ => ⟨664, 70, 662, 663, jmk41, jcd41⟩
  | 42, _ => ⟨673, 70, 671, 672, jmk42, jcd42⟩
  | 43, _ => ⟨706, 70, 704, 705, jmk43, jcd43⟩
  | 44, _ => ⟨677, 70, 676, 8, jmk44, jcd44⟩
  | 45, _ => ⟨686, 70, 685, 9, jmk45, jcd45⟩
  | 46, _ => ⟨690, 70, 689, 10, jmk46, jcd46⟩
  | 47, _ => ⟨698, 70, 697, 11, jmk47, jcd47⟩
  | 48, _ => ⟨372, 73, 371, 0, jmk48, jcd48⟩
  | 49, _ => ⟨883, 73, 881, 882, jmk49, jcd49⟩
  | 50, _ => ⟨907, 73, 905, 906, jmk50, jcd50⟩
  | 51, _ => ⟨917, 73, 915, 916, jmk51, jcd51⟩
  | 52, _ => ⟨926, 73, 924, 925, jmk52, jcd52⟩
  | 53, _ => ⟨930, 73, 929, 23, jmk53, jcd53⟩
  | 54, _ => ⟨958, 73, 956, 957, jmk54, jcd54⟩
  | 55, _ => ⟨972, 73, 970, 971, jmk55, jcd55⟩
  | 56, _ => ⟨962, 73, 961, 24, jmk56, jcd56⟩
  | 57, _ => ⟨896, 73, 895, 22, jmk57, jcd57⟩
  | 58, _ => ⟨102, 66, 101, 0, jmk58, jcd58⟩
  | 59, _ => ⟨507, 66, 505, 506, jmk59, jcd59⟩
  | 60, _ => ⟨475, 66, 473, 474, jmk60, jcd60⟩
  | 61, _ => ⟨551, 66, 549, 550, jmk61, jcd61⟩
  | 62, _ => ⟨784, 66, 782, 783, jmk62, jcd62⟩
  | 63, _ => ⟨560, 66, 558, 559, jmk63, jcd63⟩
  | 64, _ => ⟨735, 66, 733, 734, jmk64, jcd64⟩
  | 65, _ => ⟨487, 66, 485, 486, jmk65, jcd65⟩
  | 66, _ => ⟨494, 66, 492, 493, jmk66, jcd66⟩
  | 67, _ => ⟨576, 66, 574, 575, jmk67, jcd67⟩
  | 68, _ => ⟨304, 71, 303, 0, jmk68, jcd68⟩
  | 69, _ => ⟨812, 71, 810, 811, jmk69, jcd69⟩
  | 70, _ => ⟨826, 71, 825, 0, jmk70, jcd70⟩
  | 71, _ => ⟨831, 71, 830, 16, jmk71, jcd71⟩
  | 72, _ => ⟨835, 71, 834, 17, jmk72, jcd72⟩
  | 73, _ => ⟨821, 71, 820, 15, jmk73, jcd73⟩
  | 74, _ => ⟨847, 71, 846, 18, jmk74, jcd74⟩
  | 75, _ => ⟨250, 69, 249, 0, jmk75, jcd75⟩
  | 76, _ => ⟨945, 69, 943, 944, jmk76, jcd76⟩
  | 77, _ => ⟨967, 69, 965, 966, jmk77, jcd77⟩
  | 78, _ => ⟨96, 65, 95, 0, jmk78, jcd78⟩
  | 79, _ => ⟨471, 65, 469, 470, jmk79, jcd79⟩
  | 80, _ => ⟨479, 65, 477, 478, jmk80, jcd80⟩
  | 81, _ => ⟨499, 65, 498, 0, jmk81, jcd81⟩
  | 82, _ => ⟨511, 65, 510, 2, jmk82, jcd82⟩
  | 83, _ => ⟨530, 65, 529, 4, jmk83, jcd83⟩
  | 84, _ => ⟨538, 65, 537, 5, jmk84, jcd84⟩
  | 85, _ => ⟨564, 65, 563, 6, jmk85, jcd85⟩
  | 86, _ => ⟨515, 65, 514, 3, jmk86, jcd86⟩
  | 87, _ => ⟨503, 65, 502, 1, jmk87, jcd87⟩
  | 88, _ => ⟨518, 65, 517, 0, jmk88, jcd88⟩
  | 89, _ => ⟨88, 64, 87, 0, jmk89, jcd89⟩
  | 90, _ => ⟨621, 64, 619, 620, jmk90, jcd90⟩
  | 91, _ => ⟨626, 64, 624, 625, jmk91, jcd91⟩
  | 92, _ => ⟨630, 64, 628, 629, jmk92, jcd92⟩
  | 93, _ => ⟨634, 64, 632, 633, jmk93, jcd93⟩
  | 94, _ => ⟨638, 64, 636, 637, jmk94, jcd94⟩
  | 95, _ => ⟨648, 64, 646, 647, jmk95, jcd95⟩
  | 96, _ => ⟨660, 64, 658, 659, jmk96, jcd96⟩
  | 97, _ => ⟨702, 64, 700, 701, jmk97, jcd97⟩
  | 98, _ => ⟨710, 64, 708, 709, jmk98, jcd98⟩
  | 99, _ => ⟨726, 64, 724, 725, jmk99, jcd99⟩
  | 100, _ => ⟨739, 64, 737, 738, jmk100, jcd100⟩
  | 101, _ => ⟨775, 64, 773, 774, jmk101, jcd101⟩
  | 102, _ => ⟨788, 64, 786, 787, jmk102, jcd102⟩
  | 103, _ => ⟨800, 64, 798, 799, jmk103, jcd103⟩
  | 104, _ => ⟨808, 64, 806, 807, jmk104, jcd104⟩
  | 105, _ => ⟨852, 64, 850, 851, jmk105, jcd105⟩
  | 106, _ => ⟨879, 64, 877, 878, jmk106, jcd106⟩
  | 107, _ => ⟨903, 64, 901, 902, jmk107, jcd107⟩
  | 108, _ => ⟨913, 64, 911, 912, jmk108, jcd108⟩
  | 109, _ => ⟨922, 64, 920, 921, jmk109, jcd109⟩
  | 110, _ => ⟨941, 64, 939, 940, jmk110, jcd110⟩
  | 111, _ => ⟨950, 64, 948, 949, jmk111, jcd111⟩
  | 112, _ => ⟨954, 64, 952, 953, jmk112, jcd112⟩
  | 113, _ => ⟨976, 64, 974, 975, jmk113, jcd113⟩
  | 114, _ => ⟨997, 64, 995, 996, jmk114, jcd114⟩
  | 115, _ => ⟨1022, 64, 1020, 1021, jmk115, jcd115⟩
  | 116, _ => ⟨1026, 64, 1024, 1025, jmk116, jcd116⟩
  | 117, _ => ⟨1030, 64, 1028, 1029, jmk117, jcd117⟩
  | 118, _ => ⟨568, 64, 567, 7, jmk118, jcd118⟩
  | 119, _ => ⟨715, 64, 714, 12, jmk119, jcd119⟩
  | 120, _ => ⟨521, 64, 520, 0, jmk120, jcd120⟩
  | 121, _ => ⟨682, 64, 681, 0, jmk121, jcd121⟩
  | 122, _ => ⟨1036, 82, 1035, 0, jmk122, jcd122⟩
  | 123, _ => ⟨1156, 82, 1155, 0, jmk123, jcd123⟩
  | 124, _ => ⟨1153, 82, 1151, 1152, jmk124, jcd124⟩
  | 125, _ => ⟨1160, 82, 1158, 1159, jmk125, jcd125⟩
  | 126, _ => ⟨1176, 82, 1175, 33, jmk126, jcd126⟩
  | 127, _ => ⟨1188, 82, 1187, 36, jmk127, jcd127⟩
  | 128, _ => ⟨1192, 82, 1191, 37, jmk128, jcd128⟩
  | 129, _ => ⟨1184, 82, 1183, 35, jmk129, jcd129⟩
  | 130, _ => ⟨1180, 82, 1179, 34, jmk130, jcd130⟩
  | 131, _ => ⟨1196, 82, 1195, 38, jmk131, jcd131⟩
  | 132, _ => ⟨1200, 82, 1199, 39, jmk132, jcd132⟩
  | 133, _ => ⟨1172, 82, 1171, 32, jmk133, jcd133⟩
  | 134, _ => ⟨1168, 82, 1167, 31, jmk134, jcd134⟩
  | 135, _ => ⟨1164, 82, 1162, 1163, jmk135, jcd135⟩
  | 136, _ => ⟨1045, 82, 1044, 27, jmk136, jcd136⟩
  | 137, _ => ⟨1049, 82, 1048, 28, jmk137, jcd137⟩
  | 138, _ => ⟨1053, 82, 1052, 29, jmk138, jcd138⟩
  | 139, _ => ⟨1041, 82, 1040, 26, jmk139, jcd139⟩
  | 140, _ => ⟨1057, 82, 1056, 30, jmk140, jcd140⟩
  | 141, _ => ⟨1204, 82, 1202, 1203, jmk141, jcd141⟩
  | 142, _ => ⟨1327, 82, 1326, 55, jmk142, jcd142⟩
  | 143, _ => ⟨1212, 82, 1211, 40, jmk143, jcd143⟩
  | 144, _ => ⟨1223, 82, 1222, 41, jmk144, jcd144⟩
  | 145, _ => ⟨1215, 82, 1214, 0, jmk145, jcd145⟩
  | 146, _ => ⟨1227, 82, 1226, 42, jmk146, jcd146⟩
  | 147, _ => ⟨1354, 82, 1353, 0, jmk147, jcd147⟩
  | 148, _ => ⟨1289, 82, 1288, 51, jmk148, jcd148⟩
  | 149, _ => ⟨1370, 82, 1369, 60, jmk149, jcd149⟩
  | 150, _ => ⟨1247, 82, 1246, 46, jmk150, jcd150⟩
  | 151, _ => ⟨1239, 82, 1238, 44, jmk151, jcd151⟩
  | 152, _ => ⟨1251, 82, 1250, 47, jmk152, jcd152⟩
  | 153, _ => ⟨1243, 82, 1242, 45, jmk153, jcd153⟩
  | 154, _ => ⟨1235, 82, 1234, 43, jmk154, jcd154⟩
  | 155, _ => ⟨1259, 82, 1258, 48, jmk155, jcd155⟩
  | 156, _ => ⟨1297, 82, 1296, 53, jmk156, jcd156⟩
  | 157, _ => ⟨1285, 82, 1284, 50, jmk157, jcd157⟩
  | 158, _ => ⟨1293, 82, 1292, 52, jmk158, jcd158⟩
  | 159, _ => ⟨1208, 82, 1206, 1207, jmk159, jcd159⟩
  | 160, _ => ⟨1219, 82, 1217, 1218, jmk160, jcd160⟩
  | 161, _ => ⟨1231, 82, 1229, 1230, jmk161, jcd161⟩
  | 162, _ => ⟨1255, 82, 1253, 1254, jmk162, jcd162⟩
  | 163, _ => ⟨1267, 82, 1266, 49, jmk163, jcd163⟩
  | 164, _ => ⟨1270, 82, 1269, 0, jmk164, jcd164⟩
  | 165, _ => ⟨1277, 82, 1276, 0, jmk165, jcd165⟩
  | 166, _ => ⟨1305, 82, 1304, 54, jmk166, jcd166⟩
  | 167, _ => ⟨1312, 82, 1311, 0, jmk167, jcd167⟩
  | 168, _ => ⟨1315, 82, 1314, 0, jmk168, jcd168⟩
  | 169, _ => ⟨1263, 82, 1261, 1262, jmk169, jcd169⟩
  | 170, _ => ⟨1274, 82, 1272, 1273, jmk170, jcd170⟩
  | 171, _ => ⟨1281, 82, 1279, 1280, jmk171, jcd171⟩
  | 172, _ => ⟨1301, 82, 1299, 1300, jmk172, jcd172⟩
  | 173, _ => ⟨1309, 82, 1307, 1308, jmk173, jcd173⟩
  | 174, _ => ⟨1319, 82, 1317, 1318, jmk174, jcd174⟩
  | 175, _ => ⟨1339, 82, 1338, 58, jmk175, jcd175⟩
  | 176, _ => ⟨1335, 82, 1334, 57, jmk176, jcd176⟩
  | 177, _ => ⟨1331, 82, 1330, 56, jmk177, jcd177⟩
  | 178, _ => ⟨1323, 82, 1321, 1322, jmk178, jcd178⟩
  | 179, _ => ⟨1347, 82, 1346, 59, jmk179, jcd179⟩
  | 180, _ => ⟨1343, 82, 1341, 1342, jmk180, jcd180⟩
  | 181, _ => ⟨1351, 82, 1349, 1350, jmk181, jcd181⟩
  | 182, _ => ⟨1358, 82, 1356, 1357, jmk182, jcd182⟩
  | 183, _ => ⟨1362, 82, 1360, 1361, jmk183, jcd183⟩
  | 184, _ => ⟨1366, 82, 1364, 1365, jmk184, jcd184⟩
  | 185, _ => ⟨1374, 82, 1372, 1373, jmk185, jcd185⟩
  | 186, _ => ⟨1378, 82, 1376, 1377, jmk186, jcd186⟩
  | 187, _ => ⟨1386, 82, 1385, 61, jmk187, jcd187⟩
  | 188, _ => ⟨1382, 82, 1380, 1381, jmk188, jcd188⟩
  | 189, _ => ⟨1390, 82, 1388, 1389, jmk189, jcd189⟩
  | 190, _ => ⟨1401, 82, 1400, 62, jmk190, jcd190⟩
  | 191, _ => ⟨1394, 82, 1392, 1393, jmk191, jcd191⟩
  | 192, _ => ⟨1405, 82, 1403, 1404, jmk192, jcd192⟩
  | 193, _ => ⟨1409, 82, 1407, 1408, jmk193, jcd193⟩
  | 194, _ => ⟨1413, 82, 1411, 1412, jmk194, jcd194⟩
  | 195, _ => ⟨886, 83, 885, 0, jmk195, jcd195⟩
  | 196, _ => ⟨490, 79, 489, 0, jmk196, jcd196⟩
  | 197, _ => ⟨817, 71, 816, 14, jmk197, jcd197⟩
  | n + 198, h => absurd h (by omega)
def jLnkOk (own i m p : Nat) (nest : Bool) : Bool := (if Nat.ble 900 m then (if m == 900 then jAt p (.methodLink (jC own) i arraycopyName) else if m == 903 then jAt p (.methodLink (jC own) i Lib.Math.max.name) else if m == 904 then jAt p (.methodLink (jC own) i Lib.Math.min.name) else true) else (Nat.blt m 198 || m == 199) && (if nest then jAtN p (.methodLinkNest (jC own) i (jYT.getD m objectInit) "PlayedLaws") else jAt p (.methodLink (jC own) i (jYT.getD m objectInit))))
def jLnkC : List ((Nat × (Nat × Nat)) × (Nat × Bool)) := [((0, (3, 199)), (398, false)), ((0, (11, 7)), (337, true)), ((0, (20, 38)), (339, true)), ((0, (35, 3)), (981, false)), ((0, (39, 2)), (985, false)), ((0, (43, 41)), (989, false)), ((0, (47, 43)), (990, false)), ((0, (51, 4)), (991, false)), ((0, (55, 121)), (925, true)), ((0, (63, 59)), (984, false)), ((0, (69, 9)), (1002, false)), ((0, (79, 6)), (1006, false)), ((0, (86, 16)), (1010, false)), ((0, (93, 17)), (1011, false)), ((0, (97, 18)), (1012, false)), ((0, (100, 19)), (1013, false)), ((0, (103, 20)), (1014, false)), ((0, (106, 21)), (1015, false)), ((0, (109, 25)), (1016, false)), ((0, (113, 26)), (1017, false)), ((1, (3, 199)), (114, false)), ((1, (11, 58)), (116, false)), ((1, (47, 65)), (484, false)), ((1, (50, 66)), (491, false)), ((1, (72, 67)), (573, false)), ((1, (76, 60)), (526, false)), ((1, (80, 120)), (480, true)), ((1, (84, 61)), (548, false)), ((1, (88, 63)), (557, false)), ((1, (92, 14)), (731, false)), ((1, (96, 64)), (732, false)), ((1, (99, 15)), (780, false)), ((1, (102, 62)), (781, false)), ((1, (105, 59)), (748, false)), ((1, (108, 195)), (937, false)), ((1, (113, 22)), (744, false)), ((1, (117, 43)), (753, false)), ((1, (123, 28)), (754, false)), ((1, (130, 904)), (767, false)), ((1, (135, 27)), (768, false)), ((1, (138, 24)), (758, false)), ((1, (144, 121)), (699, true)), ((1, (148, 29)), (763, false)), ((2, (1, 199)), (231, false)), ((2, (15, 7)), (171, true)), ((2, (20, 9)), (720, false)), ((2, (27, 904)), (721, false)), ((3, (3, 199)), (343, false)), ((3, (11, 7)), (282, true)), ((3, (20, 38)), (284, true)), ((3, (27, 58)), (349, false)), ((3, (38, 35)), (857, false)), ((3, (42, 9)), (861, false)), ((3, (49, 66)), (864, false)), ((3, (55, 36)), (865, false)), ((3, (58, 37)), (870, false)), ((3, (65, 60)), (862, false)), ((3, (69, 41)), (863, false)), ((3, (76, 67)), (869, false)), ((3, (79, 59)), (874, false)), ((3, (83, 62)), (875, false)), ((4, (3, 199)), (270, false)), ((4, (11, 58)), (272, false)), ((4, (32, 65)), (669, false)), ((4, (39, 67)), (841, false)), ((4, (43, 39)), (665, false)), ((4, (51, 42)), (670, false)), ((4, (55, 44)), (674, false)), ((4, (65, 59)), (678, false)), ((4, (69, 121)), (617, true)), ((4, (73, 45)), (683, false)), ((4, (79, 46)), (687, false)), ((4, (82, 47)), (695, false)), ((4, (86, 60)), (679, false)), ((4, (102, 903)), (691, false)), ((4, (111, 904)), (694, false)), ((5, (3, 199)), (373, false)), ((5, (11, 7)), (312, true)), ((5, (20, 38)), (314, true)), ((5, (29, 195)), (884, false)), ((5, (35, 9)), (890, false)), ((5, (39, 121)), (828, true)), ((5, (47, 60)), (892, false)), ((5, (53, 57)), (893, false)), ((5, (60, 16)), (908, false)), ((5, (64, 18)), (909, false)), ((5, (68, 27)), (918, false)), ((5, (80, 53)), (927, false)), ((5, (84, 17)), (931, false)), ((5, (87, 41)), (897, false)), ((5, (91, 43)), (898, false)), ((5, (95, 28)), (932, false)), ((5, (99, 23)), (933, false)), ((5, (106, 56)), (959, false)), ((5, (116, 59)), (963, false)), ((5, (119, 77)), (964, false)), ((6, (3, 199)), (103, false)), ((6, (15, 59)), (552, false)), ((6, (19, 60)), (495, false)), ((6, (23, 196)), (488, false)), ((6, (29, 904)), (577, false)), ((6, (35, 900)), (580, false)), ((7, (3, 199)), (305, false)), ((7, (11, 7)), (244, true)), ((7, (26, 58)), (311, false)), ((7, (37, 38)), (249, true)), ((7, (41, 9)), (813, false)), ((7, (51, 197)), (814, false)), ((7, (55, 70)), (824, false)), ((7, (62, 73)), (818, false)), ((7, (68, 59)), (822, false)), ((7, (71, 121)), (764, true)), ((7, (75, 71)), (828, false)), ((7, (78, 74)), (844, false)), ((7, (82, 72)), (832, false)), ((7, (89, 60)), (836, false)), ((7, (95, 40)), (837, false)), ((7, (98, 42)), (842, false)), ((7, (102, 43)), (843, false)), ((7, (109, 24)), (823, false)), ((7, (112, 67)), (848, false)), ((8, (3, 199)), (251, false)), ((8, (11, 58)), (253, false)), ((8, (27, 60)), (946, false)), ((8, (31, 59)), (968, false)), ((9, (3, 199)), (97, false)), ((9, (11, 58)), (100, false)), ((9, (22, 7)), (48, true)), ((9, (31, 60)), (472, false)), ((9, (35, 8)), (480, false)), ((9, (41, 81)), (496, false)), ((9, (45, 87)), (500, false)), ((9, (49, 82)), (508, false)), ((9, (52, 83)), (527, false)), ((9, (55, 84)), (535, false)), ((9, (58, 85)), (561, false)), ((9, (61, 86)), (512, false)), ((9, (65, 10)), (522, false)), ((9, (69, 11)), (531, false)), ((9, (75, 88)), (516, false)), ((9, (79, 12)), (539, false)), ((9, (83, 16)), (544, false)), ((9, (86, 17)), (553, false)), ((9, (92, 120)), (456, true)), ((9, (95, 59)), (504, false)), ((10, (3, 199)), (89, false)), ((10, (11, 78)), (31, true)), ((10, (18, 7)), (162, true)), ((10, (25, 30)), (228, false)), ((10, (37, 75)), (185, true)), ((10, (44, 38)), (204, true)), ((10, (51, 68)), (302, false)), ((10, (58, 33)), (277, true)), ((10, (65, 48)), (307, true)), ((10, (72, 0)), (332, true)), ((10, (79, 901)), (420, false)), ((10, (85, 902)), (430, false)), ((10, (89, 79)), (468, false)), ((10, (93, 80)), (476, false)), ((10, (99, 118)), (565, false)), ((10, (106, 120)), (622, false)), ((10, (116, 12)), (639, false)), ((10, (123, 59)), (640, false)), ((10, (135, 14)), (641, false)), ((10, (141, 13)), (649, false)), ((10, (153, 15)), (653, false)), ((10, (159, 41)), (661, false)), ((10, (175, 43)), (703, false)), ((10, (179, 16)), (711, false)), ((10, (182, 119)), (712, false)), ((10, (188, 17)), (722, false)), ((10, (192, 18)), (727, false)), ((10, (195, 25)), (740, false)), ((10, (199, 26)), (749, false)), ((10, (203, 19)), (776, false)), ((10, (206, 20)), (789, false)), ((10, (209, 21)), (793, false)), ((10, (218, 32)), (801, false)), ((10, (224, 69)), (809, false)), ((10, (234, 34)), (853, false)), ((10, (240, 49)), (880, false)), ((10, (244, 195)), (899, false)), ((10, (249, 50)), (904, false)), ((10, (252, 51)), (914, false)), ((10, (255, 52)), (923, false)), ((10, (264, 76)), (942, false)), ((10, (271, 54)), (955, false)), ((10, (275, 55)), (969, false)), ((10, (278, 1)), (977, false)), ((10, (287, 5)), (998, false)), ((10, (296, 23)), (1018, false)), ((10, (299, 31)), (716, false)), ((10, (305, 22)), (1031, false)), ((10, (308, 9)), (569, false)), ((11, (1, 199)), (1037, false)), ((11, (75, 139)), (1038, false)), ((11, (78, 140)), (1054, false)), ((11, (81, 123)), (1154, false)), ((11, (92, 126)), (1173, false)), ((11, (100, 127)), (1185, false)), ((11, (104, 129)), (1181, false)), ((11, (108, 128)), (1189, false)), ((11, (115, 130)), (1177, false)), ((11, (118, 131)), (1193, false)), ((11, (121, 132)), (1197, false)), ((11, (127, 133)), (1169, false)), ((11, (130, 134)), (1165, false)), ((11, (133, 136)), (1042, false)), ((11, (137, 137)), (1046, false)), ((11, (140, 138)), (1050, false)), ((11, (152, 147)), (1352, false)), ((11, (156, 150)), (1244, false)), ((11, (160, 152)), (1248, false)), ((11, (166, 151)), (1236, false)), ((11, (170, 153)), (1240, false)), ((11, (173, 154)), (1232, false)), ((11, (177, 148)), (1286, false)), ((11, (180, 155)), (1256, false)), ((11, (184, 156)), (1294, false)), ((11, (188, 143)), (1209, false)), ((11, (192, 145)), (1213, false)), ((11, (196, 144)), (1220, false)), ((11, (199, 146)), (1224, false)), ((11, (202, 163)), (1264, false)), ((11, (205, 164)), (1268, false)), ((11, (208, 165)), (1275, false)), ((11, (212, 157)), (1282, false)), ((11, (215, 158)), (1290, false)), ((11, (218, 166)), (1302, false)), ((11, (221, 167)), (1310, false)), ((11, (224, 168)), (1313, false)), ((11, (227, 142)), (1324, false)), ((11, (230, 177)), (1328, false)), ((11, (233, 176)), (1332, false)), ((11, (236, 175)), (1336, false)), ((11, (239, 179)), (1344, false)), ((11, (242, 149)), (1367, false)), ((11, (245, 187)), (1383, false)), ((11, (254, 190)), (1398, false)), ((12, (9, 89)), (86, false)), ((12, (12, 122)), (1034, false)), ((12, (13, 90)), (618, false)), ((12, (17, 124)), (1150, false)), ((12, (18, 91)), (623, false)), ((12, (22, 125)), (1157, false)), ((12, (23, 92)), (627, false)), ((12, (26, 135)), (1161, false)), ((12, (27, 93)), (631, false)), ((12, (30, 141)), (1201, false)), ((12, (31, 94)), (635, false)), ((12, (35, 159)), (1205, false)), ((12, (36, 95)), (645, false)), ((12, (39, 160)), (1216, false)), ((12, (40, 96)), (657, false)), ((12, (43, 161)), (1228, false)), ((12, (44, 97)), (699, false)), ((12, (47, 162)), (1252, false)), ((12, (48, 98)), (707, false)), ((12, (51, 169)), (1260, false)), ((12, (52, 99)), (723, false)), ((12, (55, 170)), (1271, false)), ((12, (56, 100)), (736, false)), ((12, (59, 171)), (1278, false)), ((12, (60, 101)), (772, false)), ((12, (63, 172)), (1298, false)), ((12, (64, 102)), (785, false)), ((12, (67, 173)), (1306, false)), ((12, (68, 103)), (797, false)), ((12, (71, 174)), (1316, false)), ((12, (72, 104)), (805, false)), ((12, (75, 178)), (1320, false)), ((12, (76, 105)), (849, false)), ((12, (79, 180)), (1340, false)), ((12, (80, 106)), (876, false)), ((12, (83, 181)), (1348, false)), ((12, (84, 107)), (900, false)), ((12, (87, 182)), (1355, false)), ((12, (88, 108)), (910, false)), ((12, (91, 183)), (1359, false)), ((12, (92, 109)), (919, false)), ((12, (95, 184)), (1363, false)), ((12, (96, 110)), (938, false)), ((12, (99, 185)), (1371, false)), ((12, (100, 111)), (947, false)), ((12, (103, 186)), (1375, false)), ((12, (104, 112)), (951, false)), ((12, (107, 188)), (1379, false)), ((12, (108, 113)), (973, false)), ((12, (111, 189)), (1387, false)), ((12, (112, 114)), (994, false)), ((12, (116, 191)), (1391, false)), ((12, (117, 115)), (1019, false)), ((12, (120, 192)), (1402, false)), ((12, (121, 116)), (1023, false)), ((12, (124, 193)), (1406, false)), ((12, (125, 117)), (1027, false)), ((12, (128, 194)), (1410, false))]
theorem jLnkC_ok : (jLnkC.all fun e => jLnkOk e.1.1 e.1.2.1 e.1.2.2 e.2.1 e.2.2) = true := by decide +kernel
theorem jMthT_ok : (jMthT.zipIdx.all fun q => q.1.all fun x => jLnkC.any fun e => decide (e.1 = (q.2, (x.1, x.2)))) = true := by decide +kernel
theorem jlnk0 {own i m : Nat} (h : (jMthT.getD own []).lookup i = some m) : ∃ p nest, jLnkOk own i m p nest = true := by
  have h1 := jlookup_mem _ _ _ h
  have h2 := List.all_eq_true.mp jMthT_ok _ (jmem_getD h1)
  have h3 := List.all_eq_true.mp h2 _ h1
  obtain ⟨e, he, h4⟩ := List.any_eq_true.mp h3
  have h5 := List.all_eq_true.mp jLnkC_ok _ he
  have h6 : e.1 = (own, (i, m)) := of_decide_eq_true h4
  rw [h6] at h5
  exact ⟨_, _, h5⟩
theorem jlnk {own i m : Nat} (hm : m < 198 ∨ m = 199) (h : (jMthT.getD own []).lookup i = some m) : Cond.methodLink (jC own) i (jYT.getD m objectInit) ∈ jTs ∨ Cond.methodLinkNest (jC own) i (jYT.getD m objectInit) "PlayedLaws" ∈ jNest := by
  obtain ⟨p, nest, h5⟩ := jlnk0 h
  unfold jLnkOk at h5
  have e1 : Nat.ble 900 m = false := by
    rw [← Bool.not_eq_true, Nat.ble_eq]
    omega
  rw [if_neg (by rw [e1]; decide)] at h5
  rw [Bool.and_eq_true] at h5
  have h7 := h5.2
  cases nest
  · exact Or.inl (jAt_mem h7)
  · exact Or.inr (jAtN_mem h7)
theorem jlnk_copy {own i : Nat} (h : (jMthT.getD own []).lookup i = some 900) : Cond.methodLink (jC own) i arraycopyName ∈ jTs := by
  obtain ⟨p, nest, h5⟩ := jlnk0 h
  exact jAt_mem h5
theorem jlnk_max {own i : Nat} (h : (jMthT.getD own []).lookup i = some 903) : Cond.methodLink (jC own) i Lib.Math.max.name ∈ jTs := by
  obtain ⟨p, nest, h5⟩ := jlnk0 h
  exact jAt_mem h5
theorem jlnk_min {own i : Nat} (h : (jMthT.getD own []).lookup i = some 904) : Cond.methodLink (jC own) i Lib.Math.min.name ∈ jTs := by
  obtain ⟨p, nest, h5⟩ := jlnk0 h
  exact jAt_mem h5
theorem jmeth {m : Nat} (hm : m < 198) : Cond.code (jYT.getD m objectInit) (jBytesT.getD m .empty) (jMaxT.getD m 0) (jRetT.getD m none) ∈ jTs ∧ Cond.initialized (jYT.getD m objectInit).cls ∈ jTs ∧ (if jStatT.getD m false = true then Cond.static (jYT.getD m objectInit) ∈ jTs else Cond.instanceMethod (jYT.getD m objectInit) ∈ jTs) ∧ (jStatT.getD m false = false → jInitT.getD m false = false → Cond.selects (jC (jOwn m)) (jYT.getD m objectInit) (jYT.getD m objectInit) ∈ jTs) ∧ (parseMethodDescriptor (jYT.getD m objectInit).desc).map (fun x => x.parameters.length) = some (jParT.getD m 0) ∧ (jInitT.getD m false = true → (jYT.getD m objectInit).name = "<init>") ∧ (jYT.getD m objectInit).cls = jC (jOwn m) ∧ ((jYT.getD m objectInit).cls ≠ "java/lang/invoke/MethodHandle" ∧ (jYT.getD m objectInit).cls ≠ "java/lang/invoke/VarHandle") ∧ plainName (jYT.getD m objectInit).cls = true := by
  obtain ⟨a, b, c, d, h1, hc⟩ := jMC_ok m hm
  simp only [jMOk, Bool.and_eq_true] at h1
  obtain ⟨⟨c2, c3⟩, c4, ⟨⟨⟨c5, c6⟩, c7⟩, c8⟩, c9⟩ := h1
  refine ⟨List.mem_filter.mpr ⟨List.mem_of_getElem? hc, rfl⟩, jAt_mem c2, ?_, fun h3 h4 => ?_, of_decide_eq_true c5, fun h3 => ?_, eq_of_beq c7, of_decide_eq_true c8, c9⟩
  · split at c3
    · rename_i z; rw [if_pos z]; exact jAt_mem c3
    · rename_i z; rw [if_neg z]; exact jAt_mem c3
  · rw [h3, h4] at c4
    exact jAt_mem c4
  · rw [h3] at c6
    exact of_decide_eq_true (by simpa using c6)
def jClOk (k p q : Nat) : Bool := (List.range (jN k)).all (fun s => decide (parseFieldDescriptor (jT k s).2.2.1 = some (jTy k s)))
def jNewOk (own i k p a b : Nat) : Bool := Nat.blt k 12 && (jAt p (.classLink (jC own) i (jC k)) && (jAt a (.initialized (jC k)) && jAt b (.instantiable (jC k) (jN k))))
def jNewC : List ((Nat × (Nat × Nat)) × (Nat × (Nat × Nat))) := [((0, (9, 1)), (399, (67, 110))), ((0, (18, 4)), (401, (70, 266))), ((1, (9, 6)), (115, (66, 99))), ((2, (7, 1)), (232, (67, 110))), ((3, (9, 1)), (344, (67, 110))), ((3, (18, 4)), (346, (70, 266))), ((3, (25, 6)), (348, (66, 99))), ((4, (9, 6)), (271, (66, 99))), ((5, (9, 1)), (374, (67, 110))), ((5, (18, 4)), (376, (70, 266))), ((7, (9, 1)), (306, (67, 110))), ((7, (18, 4)), (308, (70, 266))), ((7, (24, 6)), (310, (66, 99))), ((8, (9, 6)), (252, (66, 99))), ((9, (9, 6)), (98, (66, 99))), ((9, (20, 1)), (109, (67, 110))), ((10, (9, 9)), (92, (65, 93))), ((10, (16, 1)), (224, (67, 110))), ((10, (23, 2)), (226, (68, 227))), ((10, (35, 8)), (246, (69, 247))), ((10, (42, 4)), (265, (70, 266))), ((10, (49, 7)), (300, (71, 301))), ((10, (56, 3)), (338, (72, 339))), ((10, (63, 5)), (368, (73, 369))), ((10, (70, 0)), (393, (74, 394))), ((12, (7, 10)), (84, (64, 85))), ((12, (10, 11)), (1032, (82, 1033)))]
theorem jNewC_ok : (jNewC.all fun e => jNewOk e.1.1 e.1.2.1 e.1.2.2 e.2.1 e.2.2.1 e.2.2.2) = true := by decide +kernel
theorem jClsT_ok : (jClsT.zipIdx.all fun q => q.1.all fun x => jNewC.any fun e => decide (e.1 = (q.2, (x.1, x.2)))) = true := by decide +kernel
theorem jcls {own i k : Nat} (h : (jClsT.getD own []).lookup i = some k) : k < 12 ∧ Cond.classLink (jC own) i (jC k) ∈ jTs ∧ Cond.initialized (jC k) ∈ jTs ∧ Cond.instantiable (jC k) (jN k) ∈ jTs := by
  have h1 := jlookup_mem _ _ _ h
  have h2 := List.all_eq_true.mp jClsT_ok _ (jmem_getD h1)
  have h3 := List.all_eq_true.mp h2 _ h1
  obtain ⟨e, he, h4⟩ := List.any_eq_true.mp h3
  have h5 := List.all_eq_true.mp jNewC_ok _ he
  have h6 : e.1 = (own, (i, k)) := of_decide_eq_true h4
  rw [h6] at h5
  simp only [jNewOk, Bool.and_eq_true, Nat.blt_eq] at h5
  exact ⟨h5.1, jAt_mem h5.2.1, jAt_mem h5.2.2.1, jAt_mem h5.2.2.2⟩
def jCstC : List ((Nat × (Nat × Int32)) × Nat) := [((13, (265, 1431655765)), 887), ((13, (266, 858993459)), 888), ((13, (267, 252645135)), 889)]
theorem jCstC_ok : (jCstC.all fun e => jAt e.2 (.constant (jC e.1.1) e.1.2.1 e.1.2.2)) = true := by decide +kernel
theorem jCstT_ok : (jCstT.zipIdx.all fun q => q.1.all fun x => jCstC.any fun e => decide (e.1 = (q.2, (x.1, x.2)))) = true := by decide +kernel
def jLngC : List ((Nat × (Nat × Int64)) × Nat) := [((0, (73, 7919)), 1003), ((0, (75, 6151)), 1004), ((0, (77, 65521)), 1005), ((11, (248, 7919)), 1395), ((11, (250, 6151)), 1396), ((11, (252, 65521)), 1397)]
theorem jLngC_ok : (jLngC.all fun e => jAt e.2 (.constantLong (jC e.1.1) e.1.2.1 e.1.2.2)) = true := by decide +kernel
theorem jLngT_ok : (jLngT.zipIdx.all fun q => q.1.all fun x => jLngC.any fun e => decide (e.1 = (q.2, (x.1, x.2)))) = true := by decide +kernel
theorem jcst {own i : Nat} {x : Int32} (h : (jCstT.getD own []).lookup i = some x) : Cond.constant (jC own) i x ∈ jTs := by
  have h1 := jlookup_mem _ _ _ h
  have h2 := List.all_eq_true.mp jCstT_ok _ (jmem_getD h1)
  have h3 := List.all_eq_true.mp h2 _ h1
  obtain ⟨e, he, h4⟩ := List.any_eq_true.mp h3
  have h5 := List.all_eq_true.mp jCstC_ok _ he
  have h6 : e.1 = (own, (i, x)) := of_decide_eq_true h4
  rw [h6] at h5
  exact jAt_mem h5
theorem jlng {own i : Nat} {x : Int64} (h : (jLngT.getD own []).lookup i = some x) : Cond.constantLong (jC own) i x ∈ jTs := by
  have h1 := jlookup_mem _ _ _ h
  have h2 := List.all_eq_true.mp jLngT_ok _ (jmem_getD h1)
  have h3 := List.all_eq_true.mp h2 _ h1
  obtain ⟨e, he, h4⟩ := List.any_eq_true.mp h3
  have h5 := List.all_eq_true.mp jLngC_ok _ he
  have h6 : e.1 = (own, (i, x)) := of_decide_eq_true h4
  rw [h6] at h5
  exact jAt_mem h5
def jUwC : List (List Nat) := [[410, 412, 414, 416], [176, 178, 180, 182, 184, 186, 188, 190, 192, 194, 196, 198, 200, 202, 204, 206], [239, 241, 243], [357, 359, 361, 363, 365], [287, 289, 291, 293, 295, 297], [384, 386, 388, 390], [105], [323, 325, 327, 329, 331, 333, 335], [258, 260, 262], [215, 217, 219, 221], [594, 596, 598, 600, 602, 604, 606, 608, 610, 612, 614], [1088, 1090, 1092, 1094, 1096, 1098, 1100, 1102, 1104, 1106, 1108, 1110, 1112, 1114, 1116, 1118, 1120, 1122, 1124, 1126, 1128, 1130, 1132, 1134, 1136, 1138, 1140, 1142, 1144, 1146]]
theorem jUwC_ok : (jUwC.zipIdx.all fun q => Nat.ble (jN q.2) q.1.length && (q.1.zipIdx.all fun x => jAt x.1 (u_lay (jC q.2) (jT q.2) x.2))) = true := by decide +kernel
theorem juws {k : Nat} (hk : k < 12) : ∀ w ∈ u_ws (jC k) (jT k) (jN k), w ∈ jTs := by
  intro w hw
  obtain ⟨s, hs, rfl⟩ := List.mem_map.mp hw
  have h0 : k < jUwC.length := by rw [show jUwC.length = 12 by decide +kernel]; exact hk
  have h1 := List.all_eq_true.mp jUwC_ok (jUwC[k], k) (List.mem_zipIdx_iff_getElem?.mpr (List.getElem?_eq_getElem h0))
  simp only [Bool.and_eq_true, Nat.ble_eq] at h1
  have h2 : s < jUwC[k].length := by have := List.mem_range.mp hs; omega
  exact jAt_mem (List.all_eq_true.mp h1.2 (jUwC[k][s], s) (List.mem_zipIdx_iff_getElem?.mpr (List.getElem?_eq_getElem h2)))
theorem jcl_at : ∀ k, k < 12 → jCl[k]? = some (jC k, jT k, jN k)
  | 0, _ => rfl
  | 1, _ => rfl
  | 2, _ => rfl
  | 3, _ => rfl
  | 4, _ => rfl
  | 5, _ => rfl
  | 6, _ => rfl
  | 7, _ => rfl
  | 8, _ => rfl
  | 9, _ => rfl
  | 10, _ => rfl
  | 11, _ => rfl
  | n + 12, h => absurd h (by omega)
theorem jty_ok : ∀ k, k < 12 → ∀ s, s < jN k → parseFieldDescriptor (jT k s).2.2.1 = some (jTy k s)
  | 0, _ => tyX0_ok
  | 1, _ => tyX1_ok
  | 2, _ => tyX2_ok
  | 3, _ => tyX3_ok
  | 4, _ => tyX4_ok
  | 5, _ => tyX5_ok
  | 6, _ => tyX6_ok
  | 7, _ => tyX7_ok
  | 8, _ => tyX8_ok
  | 9, _ => tyX9_ok
  | 10, _ => tyX10_ok
  | 11, _ => tyX11_ok
  | n + 12, h => absurd h (by omega)
theorem jnm_ok : ∀ k, k < 12 → ∀ a, a < jN k → ∀ b, b < jN k → a ≠ b → (jT k a).2.1 ≠ (jT k b).2.1
  | 0, _ => nmX0
  | 1, _ => nmX1
  | 2, _ => nmX2
  | 3, _ => nmX3
  | 4, _ => nmX4
  | 5, _ => nmX5
  | 6, _ => nmX6
  | 7, _ => nmX7
  | 8, _ => nmX8
  | 9, _ => nmX9
  | 10, _ => nmX10
  | 11, _ => nmX11
  | n + 12, h => absurd h (by omega)
