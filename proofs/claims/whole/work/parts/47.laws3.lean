/-! the class's calls that change something -/
def rmM (M : jM) (p c : Nat) : jM := jUp (jUp (jUp (sH M (2 + p) (gH M 1)) 2 (0, 0) 1 (jn (hsNext 0 p))) 2 (0, 0) 2 (jn (min 8 (c + 1)))) 10 (0, 0) 10 (M 10 (0, 0) 10 + 1)
def opM (M : jM) (h : jH) : jM := jUp (jUp (jUp (jUp (sH M 1 h) 2 (0, 0) 2 0) 2 (0, 1) 2 0) 8 (0, 0) 2 0) 10 (0, 0) 10 (M 10 (0, 0) 10 + 1)
def udM (M : jM) (p c : Nat) : jM := jUp (jUp (jUp (sH M 1 (gH M (2 + hsLast 0 p))) 2 (0, 0) 1 (jn (hsLast 0 p))) 2 (0, 0) 2 (jn c)) 10 (0, 0) 10 (M 10 (0, 0) 10 + 1)
def kpM (M : jM) (q e : Nat) : jM := jUp (jUp (sH M (10 + q) (gH M 1)) 2 (0, 1) 1 (jn (hsNext 1 q))) 2 (0, 1) 2 (jn (min 2 (e + 1)))
def bkM (M : jM) (q e : Nat) : jM := jUp (jUp (jUp (jUp (sH M 1 (gH M (10 + hsLast 1 q))) 2 (0, 1) 1 (jn (hsLast 1 q))) 2 (0, 1) 2 (jn e)) 2 (0, 0) 2 0) 10 (0, 0) 10 (M 10 (0, 0) 10 + 1)
section JLY
variable {d n K a b l p c L : Nat} {v : Option jV} {σ' : jS} {M : jM} {x y z : Int32} {h : jH}
theorem jUp_up {M : jM} {k : Nat} {a : jA} {s : Nat} {x y : Int32} : jUp (jUp M k a s x) k a s y = jUp M k a s y := by
  funext k' a' s'
  unfold jUp
  by_cases e : k' = k ∧ a' = a ∧ s' = s
  · rw [if_pos e, if_pos e]
  · rw [if_neg e, if_neg e, if_neg e]
/-- remember -/
theorem l119 (ht : M 2 (0, 0) 1 = jn p) (hh : M 2 (0, 0) 2 = jn c) (hp : p < 8) (hc : c ≤ 8) : jE (d + 3) 119 0 [some (.inr (.inr (some (10, (0, 0)))))] [] (n, ([], M)) v σ' ↔ v = none ∧ σ' = (n, ([], rmM M p c)) := by
  have e := fun (v : Option jV) (σ' : jS) => c31 (d := d) (n := n) (u := 0) (v := v) (σ' := σ') ht hh (show p < hsL 0 from hp) (show hsL 0 ≤ 8 by decide) hc
  simp only [s119_0, s119_1, s119_4, s119_5, s119_8, s119_11, s119_12, s119_13, s119_16, s119_17, s119_18, s119_21, e, jcall_eq, Option.toList_some, Option.toList_none, List.cons_append, List.nil_append]
  rw [show jUp (jUp (sH M (hsB 0 + p) (gH M 1)) 2 (0, 0) 1 (jn (hsNext 0 p))) 2 (0, 0) 2 (jn (min (hsL 0) (c + 1))) 10 (0, 0) 10 = M 10 (0, 0) 10 by rw [jUp_k (by decide), jUp_k (by decide), sH_k (by decide) (by decide)]]
  rfl
theorem rmM_1 : rmM M p c = sH (rmM M p c) 1 (gH M 1) := by
  have e : gH (rmM M p c) 1 = gH M 1 := by
    unfold rmM
    unfold gH
    rw [jUp_k (by decide), jUp_k (by decide), jUp_k (by decide), jUp_k (by decide), jUp_k (by decide), jUp_k (by decide), sH_other (by omega)]
    funext f
    by_cases hf : f < 10
    · rw [if_pos hf, if_pos hf, sH_other (by omega)]
    · rw [if_neg hf, if_neg hf]
  conv => lhs; rw [← sH_self (rmM M p c) 1]
  rw [e]
def lwIsSc (h : jH) (x : Int32) : Prop := 0 ≤ x ∧ x ≤ h 10 10 - 1
def lwIsSe (h : jH) (x : Int32) : Prop := 0 ≤ x ∧ x ≤ h 10 11 - 1
/-- add -/
theorem l98_no (h1 : ¬ lwIsSc (gH M 1) x) : jE (d + 20) 98 0 (lw [.inl x]) [] (n, ([], M)) v σ' ↔ v = some (.inl (-1)) ∧ σ' = (n, ([], M)) := by
  have h1' : ¬ (0 ≤ x ∧ x ≤ M 1 (0, 1) 10 - 1) := h1
  simp only [lw, List.map_cons, List.map_nil, s98_0, s98_1, s98_4, s98_5, s98_8, s98_11, s98_12, c12, jcall_eq, Option.toList_some, Option.toList_none, List.cons_append, List.nil_append, jb_0, Classical.not_not, jifN]
  rw [if_neg h1']
theorem l98_on (h1 : lwIsSc (gH M 1) x) (h2 : hBilled (gH M 1) x) : jE (d + 20) 98 0 (lw [.inl x]) [] (n, ([], M)) v σ' ↔ v = some (.inl (-2)) ∧ σ' = (n, ([], M)) := by
  have h1' : 0 ≤ x ∧ x ≤ M 1 (0, 1) 10 - 1 := h1
  have h2' : ¬ rfind 7 (M 12 (4, 1)) x (M 1 (0, 1) 12).toNatClampNeg 0 = -4 := h2
  simp only [lw, List.map_cons, List.map_nil, s98_0, s98_1, s98_4, s98_5, s98_8, s98_13, s98_14, s98_17, s98_18, s98_21, s98_24, s98_26, c12, c16, jcall_eq, Option.toList_some, Option.toList_none, List.cons_append, List.nil_append, jb_0, Classical.not_not, jifN]
  rw [if_pos h1', if_neg h2']
theorem l98_yes (w : hOk K a b l (gH M 1)) (h1 : lwIsSc (gH M 1) x) (h2 : ¬ hBilled (gH M 1) x) (ht : M 2 (0, 0) 1 = jn p) (hh : M 2 (0, 0) 2 = jn c) (hp : p < 8) (hc : c ≤ 8) : jE (d + 20) 98 0 (lw [.inl x]) [] (n, ([], M)) v σ' ↔ v = some (.inl (hOnBill (hMount (gH M 1) x l) x)) ∧ σ' = (n, ([], sH (rmM M p c) 1 (hMount (gH M 1) x l))) := by
  have h1' : 0 ≤ x ∧ x ≤ M 1 (0, 1) 10 - 1 := h1
  have h2' : rfind 7 (M 12 (4, 1)) x (M 1 (0, 1) 12).toNatClampNeg 0 = -4 := Classical.not_not.mp h2
  obtain ⟨s, hs, es⟩ := (lw_scene w).mp h1
  have hl : l < a := by rw [es] at h2; exact hOk_room w hs h2
  have w1 := w.1
  have hm : ∀ (v : Option jV) (σ' : jS), jE (d + 19) 17 0 [some (.inr (.inr (some (1, (0, 1))))), some (.inl x), some (.inl (jn l))] [] (n, ([], sH (rmM M p c) 1 (gH M 1))) v σ' ↔ v = none ∧ σ' = (n, ([], sH (rmM M p c) 1 (hMount (gH M 1) x l))) := fun v σ' => b17 (d := d + 17) w.2.1.2.2 (by omega) (Nat.le_refl l)
  simp only [lw, List.map_cons, List.map_nil, s98_0, s98_1, s98_4, s98_5, s98_8, s98_13, s98_14, s98_17, s98_18, s98_21, s98_27, s98_28, c12, c16, l119 ht hh hp hc, jcall_eq, Option.toList_some, Option.toList_none, List.cons_append, List.nil_append, jb_0, Classical.not_not, jifN]
  rw [if_pos h1', if_pos h2', rmM_1]
  simp only [s98_31, s98_32, s98_35, s98_36, s98_37, s98_40, s98_43, s98_46, s98_47, s98_50, s98_51, s98_54, sH_g0, sH_g1, sH_g2, sH_g3, sH_g4, sH_g5, sH_g6, sH_g7, sH_g8, sH_g9, sH_p0, sH_p1, sH_p2, sH_p3, sH_p4, sH_p5, sH_p6, sH_p7, sH_p8, sH_p9, sH_s10, sH_s11, sH_s12, sH_s13, sH_s14, sH_s15, sH_u10, sH_u11, sH_u12, sH_u13, sH_u14, sH_u15, w.2.1.2.2, hm, b14, sH_sH, jcall_eq, Option.toList_some, Option.toList_none, List.cons_append, List.nil_append]
/-- cut -/
theorem l99_no (h1 : ¬ lwIsSc (gH M 1) x) : jE (d + 20) 99 0 (lw [.inl x]) [] (n, ([], M)) v σ' ↔ v = some (.inl (-1)) ∧ σ' = (n, ([], M)) := by
  have h1' : ¬ (0 ≤ x ∧ x ≤ M 1 (0, 1) 10 - 1) := h1
  simp only [lw, List.map_cons, List.map_nil, s99_0, s99_1, s99_4, s99_5, s99_8, s99_11, s99_12, c12, jcall_eq, Option.toList_some, Option.toList_none, List.cons_append, List.nil_append, jb_0, Classical.not_not, jifN]
  rw [if_neg h1']
theorem l99_off (h1 : lwIsSc (gH M 1) x) (h2 : ¬ hBilled (gH M 1) x) : jE (d + 20) 99 0 (lw [.inl x]) [] (n, ([], M)) v σ' ↔ v = some (.inl (-2)) ∧ σ' = (n, ([], M)) := by
  have h1' : 0 ≤ x ∧ x ≤ M 1 (0, 1) 10 - 1 := h1
  have h2' : rfind 7 (M 12 (4, 1)) x (M 1 (0, 1) 12).toNatClampNeg 0 = -4 := Classical.not_not.mp h2
  simp only [lw, List.map_cons, List.map_nil, s99_0, s99_1, s99_4, s99_5, s99_8, s99_13, s99_14, s99_17, s99_18, s99_21, s99_24, s99_26, c12, c16, jcall_eq, Option.toList_some, Option.toList_none, List.cons_append, List.nil_append, jb_0, Classical.not_not, jifN]
  rw [if_pos h1', if_pos h2']
theorem l99_yes (w : hOk K a b l (gH M 1)) (h1 : lwIsSc (gH M 1) x) (h2 : hBilled (gH M 1) x) (ht : M 2 (0, 0) 1 = jn p) (hh : M 2 (0, 0) 2 = jn c) (hp : p < 8) (hc : c ≤ 8) : jE (d + 20) 99 0 (lw [.inl x]) [] (n, ([], M)) v σ' ↔ v = some (.inl (hStrike (gH M 1) x 10 12)) ∧ σ' = (n, ([], sH (rmM M p c) 1 (hStrike (gH M 1) x))) := by
  have h1' : 0 ≤ x ∧ x ≤ M 1 (0, 1) 10 - 1 := h1
  have h2' : ¬ rfind 7 (M 12 (4, 1)) x (M 1 (0, 1) 12).toNatClampNeg 0 = -4 := h2
  have w1 := w.1
  have hm : ∀ (v : Option jV) (σ' : jS), jE (d + 19) 18 0 [some (.inr (.inr (some (1, (0, 1))))), some (.inl x)] [] (n, ([], sH (rmM M p c) 1 (gH M 1))) v σ' ↔ v = none ∧ σ' = (n, ([], sH (rmM M p c) 1 (hStrike (gH M 1) x))) := fun v σ' => b18 (d := d + 16) w.2.1.2.2 (by omega) h2
  simp only [lw, List.map_cons, List.map_nil, s99_0, s99_1, s99_4, s99_5, s99_8, s99_13, s99_14, s99_17, s99_18, s99_21, s99_27, s99_28, c12, c16, l119 ht hh hp hc, jcall_eq, Option.toList_some, Option.toList_none, List.cons_append, List.nil_append, jb_0, Classical.not_not, jifN]
  rw [if_pos h1', if_neg h2', rmM_1]
  simp only [s99_31, s99_32, s99_35, s99_36, s99_39, s99_40, s99_43, s99_46, sH_g0, sH_g1, sH_g2, sH_g3, sH_g4, sH_g5, sH_g6, sH_g7, sH_g8, sH_g9, sH_p0, sH_p1, sH_p2, sH_p3, sH_p4, sH_p5, sH_p6, sH_p7, sH_p8, sH_p9, sH_s10, sH_s11, sH_s12, sH_s13, sH_s14, sH_s15, sH_u10, sH_u11, sH_u12, sH_u13, sH_u14, sH_u15, hm, sH_sH, jcall_eq, Option.toList_some, Option.toList_none, List.cons_append, List.nil_append]
/-- play -/
theorem l100_no (h1 : ¬ hCanOpen (gH M 1)) : jE (d + 20) 100 0 (lw []) [] (n, ([], M)) v σ' ↔ v = some (.inl (-2)) ∧ σ' = (n, ([], M)) := by
  simp only [lw, List.map_nil, s100_0, s100_1, s100_4, s100_7, s100_10, s100_12, c25M, jcall_eq, Option.toList_some, Option.toList_none, List.cons_append, List.nil_append, jb_0, Classical.not_not, jifN]
  rw [if_neg h1]
theorem l100_yes (h1 : hCanOpen (gH M 1)) (ht : M 2 (0, 0) 1 = jn p) (hh : M 2 (0, 0) 2 = jn c) (hp : p < 8) (hc : c ≤ 8) : jE (d + 20) 100 0 (lw []) [] (n, ([], M)) v σ' ↔ v = some (.inl (jb (nCarry (hSettle (nUnfold (gH M 1) 0) (gH M 1)) (nUnfold (gH M 1) 0)))) ∧ σ' = (n, ([], sH (sN (rmM M p c) 0 (nUnfold (gH M 1) 0)) 1 (hSettle (nUnfold (gH M 1) 0) (gH M 1)))) := by
  simp only [lw, List.map_nil, s100_0, s100_1, s100_4, s100_7, s100_13, s100_14, c25M, l119 ht hh hp hc, jcall_eq, Option.toList_some, Option.toList_none, List.cons_append, List.nil_append, jb_0, Classical.not_not, jifN]
  rw [if_pos h1, rmM_1]
  simp only [s100_17, s100_18, s100_21, s100_22, s100_25, s100_26, s100_29, s100_30, s100_33, s100_34, s100_37, s100_40, s100_41, s100_44, s100_45, s100_48, s100_51, s100_54, s100_55, s100_58, s100_59, c41, c26, c43, jcall_eq, Option.toList_some, Option.toList_none, List.cons_append, List.nil_append, sT_comm, sN_sN, sH_sH, nUnfold_T, hSettle_N, nCarry_T, jb_0, jif, jifN, Classical.not_not]
  rfl
/-- swap -/
theorem l101_no (h1 : ¬ (lwIsSe (gH M 1) x ∧ lwIsSe (gH M 1) y ∧ x ≠ y)) : jE (d + 20) 101 0 (lw [.inl x, .inl y]) [] (n, ([], M)) v σ' ↔ v = some (.inl (-1)) ∧ σ' = (n, ([], M)) := by
  simp only [lw, List.map_cons, List.map_nil, s101_0, s101_1, s101_4, s101_5, s101_8, s101_11, s101_12, s101_15, s101_16, s101_19, s101_22, s101_23, s101_24, s101_27, s101_28, c13, jcall_eq, Option.toList_some, Option.toList_none, List.cons_append, List.nil_append, jb_0, Classical.not_not, jifN]
  by_cases e1 : 0 ≤ x ∧ x ≤ M 1 (0, 1) 11 - 1
  · rw [if_pos e1]
    by_cases e2 : 0 ≤ y ∧ y ≤ M 1 (0, 1) 11 - 1
    · rw [if_pos e2]
      by_cases e3 : x = y
      · rw [if_pos e3]
      · exact absurd ⟨e1, e2, e3⟩ h1
    · rw [if_neg e2]
  · rw [if_neg e1]
theorem l101_yes (h1 : lwIsSe (gH M 1) x ∧ lwIsSe (gH M 1) y ∧ x ≠ y) (ht : M 2 (0, 0) 1 = jn p) (hh : M 2 (0, 0) 2 = jn c) (hp : p < 8) (hc : c ≤ 8) : jE (d + 20) 101 0 (lw [.inl x, .inl y]) [] (n, ([], M)) v σ' ↔ v = some (.inl (hInLine (hTrade (gH M 1) x y) x)) ∧ σ' = (n, ([], sH (rmM M p c) 1 (hTrade (gH M 1) x y))) := by
  obtain ⟨e1, e2, e3⟩ := h1
  have e1' : 0 ≤ x ∧ x ≤ M 1 (0, 1) 11 - 1 := e1
  have e2' : 0 ≤ y ∧ y ≤ M 1 (0, 1) 11 - 1 := e2
  simp only [lw, List.map_cons, List.map_nil, s101_0, s101_1, s101_4, s101_5, s101_8, s101_11, s101_12, s101_15, s101_16, s101_19, s101_22, s101_23, s101_24, s101_29, s101_30, c13, l119 ht hh hp hc, jcall_eq, Option.toList_some, Option.toList_none, List.cons_append, List.nil_append, jb_0, Classical.not_not, jifN]
  rw [if_pos e1', if_pos e2', if_neg e3, rmM_1]
  simp only [s101_33, s101_34, s101_37, s101_38, s101_39, s101_42, s101_43, s101_46, s101_47, s101_50, b19, b15, sH_sH, jcall_eq, Option.toList_some, Option.toList_none, List.cons_append, List.nil_append]
/-- hire -/
theorem l102_no (h1 : ¬ lwIsSe (gH M 1) x) : jE (d + 20) 102 0 (lw [.inl x]) [] (n, ([], M)) v σ' ↔ v = some (.inl (-1)) ∧ σ' = (n, ([], M)) := by
  have h1' : ¬ (0 ≤ x ∧ x ≤ M 1 (0, 1) 11 - 1) := h1
  simp only [lw, List.map_cons, List.map_nil, s102_0, s102_1, s102_4, s102_5, s102_8, s102_11, s102_12, c13, jcall_eq, Option.toList_some, Option.toList_none, List.cons_append, List.nil_append, jb_0, Classical.not_not, jifN]
  rw [if_neg h1']
theorem l102_cant (h1 : lwIsSe (gH M 1) x) (h2 : ¬ hCanEng (gH M 1) x) : jE (d + 20) 102 0 (lw [.inl x]) [] (n, ([], M)) v σ' ↔ v = some (.inl (-2)) ∧ σ' = (n, ([], M)) := by
  have h1' : 0 ≤ x ∧ x ≤ M 1 (0, 1) 11 - 1 := h1
  have h2' : ¬ (¬ rg 7 (M 12 (5, 1)) x = 3 ∧ 5 ≤ M 1 (0, 1) 13) := h2
  simp only [lw, List.map_cons, List.map_nil, s102_0, s102_1, s102_4, s102_5, s102_8, s102_13, s102_14, s102_17, s102_18, s102_21, s102_24, s102_26, c13, c20, jcall_eq, Option.toList_some, Option.toList_none, List.cons_append, List.nil_append, jb_0, Classical.not_not, jifN]
  rw [if_pos h1', if_neg h2']
theorem l102_yes (h1 : lwIsSe (gH M 1) x) (h2 : hCanEng (gH M 1) x) (ht : M 2 (0, 0) 1 = jn p) (hh : M 2 (0, 0) 2 = jn c) (hp : p < 8) (hc : c ≤ 8) : jE (d + 20) 102 0 (lw [.inl x]) [] (n, ([], M)) v σ' ↔ v = some (.inl (hEng (gH M 1) x 10 13)) ∧ σ' = (n, ([], sH (rmM M p c) 1 (hEng (gH M 1) x))) := by
  have h1' : 0 ≤ x ∧ x ≤ M 1 (0, 1) 11 - 1 := h1
  have h2' : ¬ rg 7 (M 12 (5, 1)) x = 3 ∧ 5 ≤ M 1 (0, 1) 13 := h2
  simp only [lw, List.map_cons, List.map_nil, s102_0, s102_1, s102_4, s102_5, s102_8, s102_13, s102_14, s102_17, s102_18, s102_21, s102_27, s102_28, c13, c20, l119 ht hh hp hc, jcall_eq, Option.toList_some, Option.toList_none, List.cons_append, List.nil_append, jb_0, Classical.not_not, jifN]
  rw [if_pos h1', if_pos h2', rmM_1]
  simp only [s102_31, s102_32, s102_35, s102_36, s102_39, s102_40, s102_43, s102_46, b21, sH_g0, sH_g1, sH_g2, sH_g3, sH_g4, sH_g5, sH_g6, sH_g7, sH_g8, sH_g9, sH_p0, sH_p1, sH_p2, sH_p3, sH_p4, sH_p5, sH_p6, sH_p7, sH_p8, sH_p9, sH_s10, sH_s11, sH_s12, sH_s13, sH_s14, sH_s15, sH_u10, sH_u11, sH_u12, sH_u13, sH_u14, sH_u15, sH_sH, jcall_eq, Option.toList_some, Option.toList_none, List.cons_append, List.nil_append]
/-- undo -/
theorem l103_no (hh : M 2 (0, 0) 2 = 0) : jE (d + 20) 103 0 (lw []) [] (n, ([], M)) v σ' ↔ v = some (.inl (-2)) ∧ σ' = (n, ([], M)) := by
  simp only [lw, List.map_nil, s103_0, s103_1, s103_4, s103_7, s103_10, s103_12, hh, not_true_eq_false, if_false]
theorem l103_yes (ht : M 2 (0, 0) 1 = jn p) (hh : M 2 (0, 0) 2 = jn (c + 1)) (hp : p < 8) (hc : c ≤ 8) : jE (d + 20) 103 0 (lw []) [] (n, ([], M)) v σ' ↔ v = some (.inl (jn c)) ∧ σ' = (n, ([], udM M p c)) := by
  have e := fun (v : Option jV) (σ' : jS) => c32 (d := d + 17) (n := n) (u := 0) (v := v) (σ' := σ') ht hh (show p < hsL 0 from hp) (show hsL 0 ≤ 8 by decide) hc
  have e1 : ¬ jn (c + 1) = 0 := fun z => by have := jn_inj (a := c + 1) (b := 0) (by omega) (by omega) z; omega
  simp only [lw, List.map_nil, s103_0, s103_1, s103_4, s103_7, s103_10, s103_12, s103_13, s103_14, s103_17, s103_18, s103_21, s103_24, s103_25, s103_26, s103_29, s103_30, s103_31, s103_34, s103_35, s103_38, s103_41, e, jcall_eq, Option.toList_some, Option.toList_none, List.cons_append, List.nil_append, hh, e1, not_false_eq_true, if_true]
  rw [show jUp (jUp (sH M 1 (gH M (hsB 0 + hsLast 0 p))) 2 (0, 0) 1 (jn (hsLast 0 p))) 2 (0, 0) 2 (jn c) 10 (0, 0) 10 = M 10 (0, 0) 10 by rw [jUp_k (by decide), jUp_k (by decide), sH_k (by decide) (by decide)]]
  rw [jUp_k (show (2 : Nat) ≠ 10 by decide), jUp_at]
  rfl
/-- keep -/
theorem l115_no (hh : M 2 (0, 1) 2 = 2) : jE (d + 20) 115 0 (lw []) [] (n, ([], M)) v σ' ↔ v = some (.inl (-3)) ∧ σ' = (n, ([], M)) := by
  simp only [lw, List.map_nil, s115_0, s115_1, s115_4, s115_7, s115_8, s115_11, s115_13, hh]
  rw [if_neg (by decide)]
theorem l115_yes (ht : M 2 (0, 1) 1 = jn p) (hh : M 2 (0, 1) 2 = jn c) (hp : p < 2) (hc : c < 2) : jE (d + 20) 115 0 (lw []) [] (n, ([], M)) v σ' ↔ v = some (.inl (jn (min 2 (c + 1)))) ∧ σ' = (n, ([], kpM M p c)) := by
  have e := fun (v : Option jV) (σ' : jS) => c31 (d := d + 17) (n := n) (u := 1) (v := v) (σ' := σ') ht hh (show p < hsL 1 from hp) (show hsL 1 ≤ 8 by decide) (by omega)
  have e1 : jn c < 2 := (jn_lt (k := c) (l := 2) (by omega) (by omega)).mpr hc
  simp only [lw, List.map_nil, s115_0, s115_1, s115_4, s115_7, s115_8, s115_11, s115_13, s115_14, s115_15, s115_18, s115_19, s115_22, s115_25, s115_26, s115_29, s115_32, e, jcall_eq, Option.toList_some, Option.toList_none, List.cons_append, List.nil_append, hh, e1, if_true, jUp_at]
  rfl
/-- back -/
theorem l116_no (hh : M 2 (0, 1) 2 = 0) : jE (d + 20) 116 0 (lw []) [] (n, ([], M)) v σ' ↔ v = some (.inl (-2)) ∧ σ' = (n, ([], M)) := by
  simp only [lw, List.map_nil, s116_0, s116_1, s116_4, s116_7, s116_10, s116_12, hh, not_true_eq_false, if_false]
theorem l116_yes (ht : M 2 (0, 1) 1 = jn p) (hh : M 2 (0, 1) 2 = jn (c + 1)) (hp : p < 2) (hc : c ≤ 2) : jE (d + 20) 116 0 (lw []) [] (n, ([], M)) v σ' ↔ v = some (.inl (jn c)) ∧ σ' = (n, ([], bkM M p c)) := by
  have e := fun (v : Option jV) (σ' : jS) => c32 (d := d + 17) (n := n) (u := 1) (v := v) (σ' := σ') ht hh (show p < hsL 1 from hp) (show hsL 1 ≤ 8 by decide) (by omega)
  have e1 : ¬ jn (c + 1) = 0 := fun z => by have := jn_inj (a := c + 1) (b := 0) (by omega) (by omega) z; omega
  simp only [lw, List.map_nil, s116_0, s116_1, s116_4, s116_7, s116_10, s116_12, s116_13, s116_14, s116_17, s116_18, s116_21, s116_24, s116_25, s116_28, s116_29, s116_32, s116_33, s116_34, s116_37, s116_38, s116_39, s116_42, s116_43, s116_46, s116_49, e, jcall_eq, Option.toList_some, Option.toList_none, List.cons_append, List.nil_append, hh, e1, not_false_eq_true, if_true]
  have e2 : ∀ N : jM, jUp N 2 (0, 0) 2 0 10 (0, 0) 10 = N 10 (0, 0) 10 := fun N => by rw [jUp_k (by decide)]
  rw [e2, show jUp (jUp (sH M 1 (gH M (hsB 1 + hsLast 1 p))) 2 (0, 1) 1 (jn (hsLast 1 p))) 2 (0, 1) 2 (jn c) 10 (0, 0) 10 = M 10 (0, 0) 10 by rw [jUp_k (by decide), jUp_k (by decide), sH_k (by decide) (by decide)]]
  rw [jUp_k (show (2 : Nat) ≠ 10 by decide), jUp_a (show ((0, 1) : jA) ≠ (0, 0) by decide), jUp_at]
  rfl
/-- see -/
theorem l110_no (h1 : ¬ (lwIsSe (gH M 1) x ∧ 0 ≤ y ∧ y ≤ 7)) : jE (d + 20) 110 0 (lw [.inl x, .inl y]) [] (n, ([], M)) v σ' ↔ v = some (.inl (-1)) ∧ σ' = (n, ([], M)) := by
  simp only [lw, List.map_cons, List.map_nil, s110_0, s110_1, s110_4, s110_5, s110_8, s110_11, s110_12, s110_13, s110_15, s110_18, s110_21, s110_22, c13, c120, jcall_eq, Option.toList_some, Option.toList_none, List.cons_append, List.nil_append, jb_0, Classical.not_not, jifN]
  by_cases e1 : 0 ≤ x ∧ x ≤ M 1 (0, 1) 11 - 1
  · rw [if_pos e1]
    by_cases e2 : 0 ≤ y ∧ y ≤ 7
    · exact absurd ⟨e1, e2⟩ h1
    · rw [if_neg e2]
  · rw [if_neg e1]
theorem l110_full (h1 : lwIsSe (gH M 1) x ∧ 0 ≤ y ∧ y ≤ 7) (hm : ¬ M 8 (0, 0) 2 < 6) : jE (d + 20) 110 0 (lw [.inl x, .inl y]) [] (n, ([], M)) v σ' ↔ v = some (.inl (-3)) ∧ σ' = (n, ([], M)) := by
  have e1 : 0 ≤ x ∧ x ≤ M 1 (0, 1) 11 - 1 := h1.1
  simp only [lw, List.map_cons, List.map_nil, s110_0, s110_1, s110_4, s110_5, s110_8, s110_11, s110_12, s110_13, s110_15, s110_18, s110_23, s110_24, s110_27, s110_28, s110_29, s110_32, s110_45, s110_47, c13, c120, c76, jcall_eq, Option.toList_some, Option.toList_none, List.cons_append, List.nil_append, jb_0, Classical.not_not, jifN]
  rw [if_pos e1, if_pos h1.2, if_neg hm, if_neg hm]
theorem l110_yes (h1 : lwIsSe (gH M 1) x ∧ 0 ≤ y ∧ y ≤ 7) (hm : M 8 (0, 0) 2 < 6) : jE (d + 20) 110 0 (lw [.inl x, .inl y]) [] (n, ([], M)) v σ' ↔ v = some (.inl (M 8 (0, 0) 2 + 1)) ∧ σ' = (n, ([], sgNote M x y)) := by
  have e1 : 0 ≤ x ∧ x ≤ M 1 (0, 1) 11 - 1 := h1.1
  simp only [lw, List.map_cons, List.map_nil, s110_0, s110_1, s110_4, s110_5, s110_8, s110_11, s110_12, s110_13, s110_15, s110_18, s110_23, s110_24, s110_27, s110_28, s110_29, s110_32, s110_35, s110_36, s110_39, s110_42, s110_47, c13, c120, c76, jcall_eq, Option.toList_some, Option.toList_none, List.cons_append, List.nil_append, jb_0, Classical.not_not, jifN]
  rw [if_pos e1, if_pos h1.2, if_pos hm, if_pos hm]
  rw [show sgNote M x y 8 (0, 0) 2 = M 8 (0, 0) 2 + 1 from jUp_at _ _ _ _ _]
/-- forget -/
theorem l111 : jE (d + 20) 111 0 (lw [] ++ [none]) [] (n, ([], M)) v σ' ↔ v = some (.inl (M 8 (0, 0) 2)) ∧ σ' = (n, ([], jUp M 8 (0, 0) 2 0)) := by
  simp only [lw, List.map_nil, s111_0, s111_1, s111_4, s111_7, s111_8, s111_9, s111_12, s111_13, s111_16, s111_17, jcall_eq, Option.toList_some, Option.toList_none, List.cons_append, List.nil_append]
/-- write -/
theorem l90_no (h1 : ¬ (32 ≤ x ∧ x ≤ 126)) : jE (d + 20) 90 0 (lw [.inl x]) [] (n, ([], M)) v σ' ↔ v = some (.inl (-1)) ∧ σ' = (n, ([], M)) := by
  simp only [lw, List.map_cons, List.map_nil, s90_0, s90_1, s90_3, s90_5, s90_8, s90_11, s90_12, c120, jcall_eq, Option.toList_some, Option.toList_none, List.cons_append, List.nil_append, jb_0, Classical.not_not, jifN]
  rw [if_neg h1]
theorem l90_yes (h1 : 32 ≤ x ∧ x ≤ 126) (hL : M 9 (0, 0) 2 = jn L) (h2 : L ≤ 200) : jE (d + 20) 90 0 (lw [.inl x]) [] (n, ([], M)) v σ' ↔ v = some (.inl (if L < 200 then jn (L + 1) else -3)) ∧ σ' = (n, ([], if L < 200 then jUp (mC M (30, 0) (upd (M 12 (30, 0)) L x)) 9 (0, 0) 2 (jn (L + 1)) else M)) := by
  simp only [lw, List.map_cons, List.map_nil, s90_0, s90_1, s90_3, s90_5, s90_8, s90_13, s90_14, s90_17, s90_18, s90_21, s90_24, s90_25, s90_28, s90_31, s90_34, s90_36, c120, c79 hL h2, jcall_eq, Option.toList_some, Option.toList_none, List.cons_append, List.nil_append, jb_0, Classical.not_not, jifN]
  rw [if_pos h1]
  by_cases h3 : L < 200
  · rw [if_pos h3, if_pos h3, if_pos h3, jUp_at]
  · rw [if_neg h3, if_neg h3, if_neg h3]
/-- wipe -/
theorem l91 : jE (d + 20) 91 0 (lw [] ++ [none]) [] (n, ([], M)) v σ' ↔ v = some (.inl (M 9 (0, 0) 2)) ∧ σ' = (n, ([], jUp M 9 (0, 0) 2 0)) := by
  simp only [lw, List.map_nil, s91_0, s91_1, s91_4, s91_7, s91_8, s91_9, s91_12, s91_13, s91_16, s91_17, jcall_eq, Option.toList_some, Option.toList_none, List.cons_append, List.nil_append]
/-- fault -/
theorem l92 (hL : M 9 (0, 0) 2 = jn L) (h2 : L ≤ 200) : jE (d + 20) 92 0 (lw []) [] (n, ([], M)) v σ' ↔ v = some (.inl (rdAll M L).1) ∧ σ' = (n, ([], tX M (rdAll M L).2.2 (rdAll M L).2.1)) := by
  simp only [lw, List.map_nil, s92_0, s92_1, s92_4, s92_7, c80 hL h2, jcall_eq, Option.toList_some, Option.toList_none, List.cons_append, List.nil_append]
/-- open -/
theorem l118 : jE (d + 2) 118 0 [some (.inr (.inr (some (10, (0, 0))))), some (.inr (.inr (some (1, (0, 0)))))] [] (n, ([], M)) v σ' ↔ v = none ∧ σ' = (n, ([], opM M (gH M 0))) := by
  simp only [s118_0, s118_1, s118_4, s118_5, s118_8, s118_9, s118_12, s118_13, s118_16, s118_17, s118_20, s118_21, s118_24, s118_25, s118_28, s118_29, s118_32, s118_33, s118_34, s118_37, s118_38, s118_39, s118_42, c9 (show (0 : Nat) ≠ 1 by decide), jcall_eq, Option.toList_some, Option.toList_none, List.cons_append, List.nil_append]
  rw [show jUp (jUp (jUp (sH M 1 (gH M 0)) 2 (0, 0) 2 0) 2 (0, 1) 2 0) 8 (0, 0) 2 0 10 (0, 0) 10 = M 10 (0, 0) 10 by rw [jUp_k (by decide), jUp_k (by decide), jUp_k (by decide), sH_k (by decide) (by decide)]]
  rfl
/-- lay -/
theorem l93_no (hL : M 9 (0, 0) 2 = jn L) (h2 : L ≤ 200) (h1 : ¬ ((rdAll M L).1 = -4 ∧ ¬ (rdAll M L).2.2 10 10 = 0 ∧ ¬ (rdAll M L).2.2 10 11 = 0)) : jE (d + 20) 93 0 (lw []) [] (n, ([], M)) v σ' ↔ v = some (.inl (-2)) ∧ σ' = (n, ([], tX M (rdAll M L).2.2 (rdAll M L).2.1)) := by
  simp only [lw, List.map_nil, s93_0, s93_1, s93_4, s93_7, s93_9, s93_12, s93_13, s93_16, s93_19, s93_22, s93_25, s93_26, s93_29, s93_32, s93_35, s93_38, s93_40, c80 hL h2, jcall_eq, Option.toList_some, Option.toList_none, List.cons_append, List.nil_append, tX, sH_g0, sH_g1, sH_g2, sH_g3, sH_g4, sH_g5, sH_g6, sH_g7, sH_g8, sH_g9, sH_p0, sH_p1, sH_p2, sH_p3, sH_p4, sH_p5, sH_p6, sH_p7, sH_p8, sH_p9, sH_s10, sH_s11, sH_s12, sH_s13, sH_s14, sH_s15, sH_u10, sH_u11, sH_u12, sH_u13, sH_u14, sH_u15, jifN]
  by_cases e1 : (rdAll M L).1 = -4
  · rw [if_pos e1]
    by_cases e2 : (rdAll M L).2.2 10 10 = 0
    · rw [if_pos e2]
    · rw [if_neg e2]
      by_cases e3 : (rdAll M L).2.2 10 11 = 0
      · rw [if_pos e3]
      · exact absurd ⟨e1, e2, e3⟩ h1
  · rw [if_neg e1]
theorem l93_yes (hL : M 9 (0, 0) 2 = jn L) (h2 : L ≤ 200) (h1 : (rdAll M L).1 = -4 ∧ ¬ (rdAll M L).2.2 10 10 = 0 ∧ ¬ (rdAll M L).2.2 10 11 = 0) : ∃ g, hEq g (rdAll M L).2.2 ∧ ∀ (v : Option jV) (σ' : jS), jE (d + 20) 93 0 (lw []) [] (n, ([], M)) v σ' ↔ v = some (.inl (g 10 11)) ∧ σ' = (n, ([], opM (tX M (rdAll M L).2.2 (rdAll M L).2.1) g)) := by
  refine ⟨gH (tX M (rdAll M L).2.2 (rdAll M L).2.1) 0, hEq_gH _ 0 _, fun v σ' => ?_⟩
  obtain ⟨e1, e2, e3⟩ := h1
  simp only [lw, List.map_nil, s93_0, s93_1, s93_4, s93_7, s93_9, s93_12, s93_13, s93_16, s93_19, s93_22, s93_25, s93_26, s93_29, s93_32, s93_35, s93_41, s93_42, s93_43, s93_46, s93_49, c80 hL h2, jcall_eq, Option.toList_some, Option.toList_none, List.cons_append, List.nil_append, tX, sH_g0, sH_g1, sH_g2, sH_g3, sH_g4, sH_g5, sH_g6, sH_g7, sH_g8, sH_g9, sH_p0, sH_p1, sH_p2, sH_p3, sH_p4, sH_p5, sH_p6, sH_p7, sH_p8, sH_p9, sH_s10, sH_s11, sH_s12, sH_s13, sH_s14, sH_s15, sH_u10, sH_u11, sH_u12, sH_u13, sH_u14, sH_u15, jifN]
  rw [if_pos e1, if_neg e2, if_neg e3]
  simp only [l118, jcall_eq, Option.toList_some, Option.toList_none, List.cons_append, List.nil_append, s93_52, s93_53, s93_56, s93_59]
  have e4 : ∀ (N : jM) (g : jH), opM N g 1 (0, 1) 11 = g 10 11 := fun N g => by
    unfold opM
    rw [jUp_k (by decide), jUp_k (by decide), jUp_k (by decide), jUp_k (by decide), sH_s11]
  rw [e4]
end JLY
