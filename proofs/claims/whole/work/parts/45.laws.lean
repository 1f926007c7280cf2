/-! the class's calls that only tell -/
abbrev lw (as : List jV) : List (Option jV) := some (.inr (.inr (some (10, (0, 0))))) :: as.map some
def lwScene (h : jH) (x y : Int32) : Int32 :=
  if 0 ≤ x ∧ x ≤ h 10 10 - 1 then (if y.toInt = 0 then rg 7 (h 0) x else if y.toInt = 1 then rg 7 (h 1) x else if y.toInt = 2 then (if rg 7 (h 2) x = 8 then -4 else rg 7 (h 2) x) else if y.toInt = 3 then hOnBill h x else if y.toInt = 4 then rg 7 (h 3) x else -1) else -1
def lwSeat (h : jH) (x y : Int32) : Int32 :=
  if 0 ≤ x ∧ x ≤ h 10 11 - 1 then (if y.toInt = 0 then rg 7 (h 5) x else if y.toInt = 1 then rg 7 (h 6) x else if y.toInt = 2 then rg 7 (h 7) x else if y.toInt = 3 then hInLine h x else if y.toInt = 4 then rg 7 (h 8) x else -1) else -1
def lwTon (h : jH) (x y : Int32) : Int32 :=
  if (0 ≤ x ∧ x ≤ h 10 11 - 1) ∧ (0 ≤ y ∧ y ≤ 2) then (if y.toInt = 0 then (if rg 7 (nUnfold h 0 1) x = 0 then -4 else rg 7 (nUnfold h 0 1) x) else if y.toInt = 1 then rg 7 (nUnfold h 0 3) x else rg 7 (nUnfold h 0 0) x) else -1
def lwPass (h : jH) (x : Int32) : Int32 :=
  if 0 ≤ x ∧ x ≤ 1 then (if x = 0 then h 10 11 - nUnfold h 0 5 0 else jb (hPass h)) else -1
def lwClaq (h : jH) (x : Int32) : Int32 :=
  if 0 ≤ x ∧ x ≤ 1 then (if fcBest h = -4 then -4 else if x = 0 then bc (fcBest h) else fcBest h) else -1
def lwMost (h : jH) (x : Int32) : Int32 := if 0 ≤ x ∧ x ≤ 1 then (if x = 0 then (faBest h).1 else (faBest h).2) else -1
def lwFits (M : jM) (h : jH) (x y : Int32) : Int32 := if (0 ≤ x ∧ x ≤ h 10 11 - 1) ∧ (0 ≤ y ∧ y ≤ 1) then (if y = 0 then fpBest M 7 x 31 else fpBest M 6 x 4) else -1
def lwCough (h : jH) (x y : Int32) : Int32 := if (0 ≤ x ∧ x ≤ 10) ∧ (0 ≤ y ∧ y ≤ 1) then (if y = 0 then (cgRes h x).1 else (cgRes h x).2) else -1
def lwSeason (h : jH) (x y z : Int32) : Int32 := if (0 ≤ x ∧ x ≤ 9999) ∧ (1 ≤ y ∧ y ≤ 40) ∧ (0 ≤ z ∧ z ≤ 1) then (if z = 0 then csRun x y.toNatClampNeg 0 h 10 15 - h 10 15 else hBnd (csRun x y.toNatClampNeg 0 h)) else -1
section JLW
variable {d n K a b l : Nat} {v : Option jV} {σ' : jS} {M : jM} {x y z : Int32} {h : jH}
theorem jif {c : Prop} [Decidable c] {a b : Int32} {s : jS} : (if c then (v = some (.inl a) ∧ σ' = s) else (v = some (.inl b) ∧ σ' = s)) ↔ (v = some (.inl (if c then a else b)) ∧ σ' = s) := by
  by_cases h : c
  · rw [if_pos h, if_pos h]
  · rw [if_neg h, if_neg h]
theorem jifN {α : Type} {c : Prop} [Decidable c] {a b : α} : (if ¬ c then a else b) = if c then b else a := by
  by_cases h : c
  · rw [if_pos h, if_neg (fun z => z h)]
  · rw [if_neg h, if_pos h]
theorem jifA {α : Type} {c c' : Prop} [Decidable c] [Decidable c'] {a b : α} : (if c then (if c' then a else b) else b) = if c ∧ c' then a else b := by
  by_cases h : c
  · by_cases h' : c'
    · rw [if_pos h, if_pos h', if_pos ⟨h, h'⟩]
    · rw [if_pos h, if_neg h', if_neg (fun z => h' z.2)]
  · rw [if_neg h, if_neg (fun z => h z.1)]
theorem rg_T1 (M : jM) (x : Int32) : rg 7 (gH M 1 4) x = rg 7 (M 12 (4, 1)) x := rfl
theorem jE_of {m pc : Nat} {al : jL} {st : List jV} {σ : jS} {v0 : Option jV} {σ0 : jS} (h : ∀ (v : Option jV) (σ' : jS), jE d m pc al st σ v σ' ↔ v = v0 ∧ σ' = σ0) : jE d m pc al st σ v0 σ0 := (h _ _).mpr ⟨rfl, rfl⟩
/-- scene -/
theorem l94 : jE (d + 20) 94 0 (lw [.inl x, .inl y]) [] (n, ([], M)) v σ' ↔ v = some (.inl (lwScene (gH M 1) x y)) ∧ σ' = (n, ([], M)) := by
  simp only [lw, List.map_cons, List.map_nil, s94_0, s94_1, s94_4, s94_5, s94_8, s94_11, s94_12, s94_13, s94_14, s94_48, s94_49, s94_52, s94_55, s94_56, s94_59, s94_60, s94_61, s94_64, s94_67, s94_68, s94_71, s94_72, s94_73, s94_76, s94_79, s94_80, s94_83, s94_85, s94_88, s94_90, s94_93, s94_94, s94_97, s94_100, s94_101, s94_104, s94_105, s94_106, s94_109, s94_110, s94_113, s94_114, s94_115, s94_118, s94_121, s94_122, s94_125, s94_126, s94_127, c12, c59, c14, jcall_eq, Option.toList_some, Option.toList_none, List.cons_append, List.nil_append, jl_0, jl_1, jl_2, jl_3, jl_4, jl_5, jl_6, jl_7, jl_8, jl_9, jl_16, jl_17, jl_18, jl_19, jl_20, jb_0, Classical.not_not, jif, jifN]
  rfl
/-- seat -/
theorem l95 : jE (d + 20) 95 0 (lw [.inl x, .inl y]) [] (n, ([], M)) v σ' ↔ v = some (.inl (lwSeat (gH M 1) x y)) ∧ σ' = (n, ([], M)) := by
  simp only [lw, List.map_cons, List.map_nil, s95_0, s95_1, s95_4, s95_5, s95_8, s95_11, s95_12, s95_13, s95_14, s95_48, s95_49, s95_52, s95_55, s95_56, s95_59, s95_60, s95_61, s95_64, s95_67, s95_68, s95_71, s95_72, s95_73, s95_76, s95_79, s95_80, s95_83, s95_84, s95_85, s95_88, s95_89, s95_92, s95_93, s95_94, s95_97, s95_100, s95_101, s95_104, s95_105, s95_106, c13, c59, c15, jcall_eq, Option.toList_some, Option.toList_none, List.cons_append, List.nil_append, jl_0, jl_1, jl_2, jl_3, jl_4, jl_5, jl_6, jl_7, jl_8, jl_9, jl_16, jl_17, jl_18, jl_19, jl_20, jb_0, Classical.not_not, jif, jifN]
  rfl
/-- tonight -/
theorem l96 : ∃ M1, iEq M M1 ∧ jE (d + 20) 96 0 (lw [.inl x, .inl y]) [] (n, ([], M)) (some (.inl (lwTon (gH M 1) x y))) (n, ([], M1)) := by
  by_cases h1 : 0 ≤ x ∧ x ≤ gH M 1 10 11 - 1
  · by_cases h2 : 0 ≤ y ∧ y ≤ 2
    · refine ⟨sN M 0 (nUnfold (gH M 1) 0), iEq_sN (by decide), jE_of (fun v σ' => ?_)⟩
      unfold lwTon
      rw [if_pos ⟨h1, h2⟩]
      have h1' : 0 ≤ x ∧ x ≤ M 1 (0, 1) 11 - 1 := h1
      simp only [lw, List.map_cons, List.map_nil, s96_0, s96_1, s96_4, s96_5, s96_8, s96_11, s96_12, s96_13, s96_14, s96_17, s96_20, s96_21, s96_22, s96_23, s96_26, s96_27, s96_30, s96_31, s96_34, s96_35, s96_60, s96_61, s96_64, s96_67, s96_68, s96_71, s96_74, s96_76, s96_79, s96_80, s96_83, s96_86, s96_87, s96_90, s96_91, s96_92, s96_95, s96_98, s96_99, s96_102, s96_103, s96_104, s96_107, s96_110, s96_111, s96_114, c13, c120, c59, c41, jcall_eq, Option.toList_some, Option.toList_none, List.cons_append, List.nil_append, jl_0, jl_1, jl_2, jl_3, jl_4, jl_5, jl_6, jl_7, jl_8, jl_9, jl_16, jl_17, jl_18, jl_19, jl_20, jb_0, Classical.not_not, jif, jifN, sN_g1, sN_g3, sN_g0]
      rw [if_pos h1', if_pos h2]
    · refine ⟨M, iEq_rfl M, jE_of (fun v σ' => ?_)⟩
      unfold lwTon
      rw [if_neg (fun z => h2 z.2)]
      have h1' : 0 ≤ x ∧ x ≤ M 1 (0, 1) 11 - 1 := h1
      simp only [lw, List.map_cons, List.map_nil, s96_0, s96_1, s96_4, s96_5, s96_8, s96_11, s96_12, s96_13, s96_14, s96_17, s96_20, s96_21, c13, c120, jcall_eq, Option.toList_some, Option.toList_none, List.cons_append, List.nil_append, jb_0, Classical.not_not, jifN]
      rw [if_pos h1', if_neg h2]
  · refine ⟨M, iEq_rfl M, jE_of (fun v σ' => ?_)⟩
    unfold lwTon
    rw [if_neg (fun z => h1 z.1)]
    have h1' : ¬ (0 ≤ x ∧ x ≤ M 1 (0, 1) 11 - 1) := h1
    simp only [lw, List.map_cons, List.map_nil, s96_0, s96_1, s96_4, s96_5, s96_8, s96_20, s96_21, c13, jcall_eq, Option.toList_some, Option.toList_none, List.cons_append, List.nil_append, jb_0, Classical.not_not, jifN]
    rw [if_neg h1']
/-- passes -/
theorem l97 : ∃ M1, iEq M M1 ∧ jE (d + 20) 97 0 (lw [.inl x]) [] (n, ([], M)) (some (.inl (lwPass (gH M 1) x))) (n, ([], M1)) := by
  by_cases h1 : 0 ≤ x ∧ x ≤ 1
  · refine ⟨sN M 0 (nUnfold (gH M 1) 0), iEq_sN (by decide), jE_of (fun v σ' => ?_)⟩
    unfold lwPass
    rw [if_pos h1]
    simp only [lw, List.map_cons, List.map_nil, s97_0, s97_1, s97_2, s97_3, s97_6, s97_9, s97_10, s97_11, s97_12, s97_15, s97_16, s97_19, s97_20, s97_23, s97_24, s97_27, s97_28, s97_31, s97_34, s97_35, s97_38, s97_41, s97_42, s97_43, s97_44, s97_47, s97_48, s97_51, s97_54, s97_57, s97_58, s97_61, s97_62, c120, c41, c43, jcall_eq, Option.toList_some, Option.toList_none, List.cons_append, List.nil_append, jl_0, jl_1, jl_2, jl_3, jl_4, jl_5, jl_6, jl_7, jl_8, jl_9, jl_16, jl_17, jl_18, jl_19, jl_20, jb_0, Classical.not_not, jif, jifN, sN_1, sN_gone, gH_sN, nCarry_N]
    rw [if_pos h1]
    unfold jb
    rfl
  · refine ⟨M, iEq_rfl M, jE_of (fun v σ' => ?_)⟩
    unfold lwPass
    rw [if_neg h1]
    simp only [lw, List.map_cons, List.map_nil, s97_0, s97_1, s97_2, s97_3, s97_6, s97_9, s97_10, c120, jcall_eq, Option.toList_some, Option.toList_none, List.cons_append, List.nil_append, jb_0, Classical.not_not, jifN]
    rw [if_neg h1]
/-- claques -/
theorem l106 : ∃ M1, iEq M M1 ∧ jE (d + 20) 106 0 (lw [.inl x] ++ [none]) [] (n, ([], M)) (some (.inl (lwClaq (gH M 1) x))) (n, ([], M1)) := by
  by_cases h1 : 0 ≤ x ∧ x ≤ 1
  · obtain ⟨h', nv', e⟩ := c49 (d := d + 14) (n := n) (M := M)
    refine ⟨sH (sN M 10 nv') 14 h', iEq_tr (iEq_sN (by decide)) (iEq_sH (Or.inr (by decide))), jE_of (fun v σ' => ?_)⟩
    have hi := fun (v : Option jV) (σ' : jS) => jE_iff (v := v) (σ' := σ') e
    unfold lwClaq
    rw [if_pos h1]
    simp only [lw, List.map_cons, List.map_nil, s106_0, s106_1, s106_2, s106_3, s106_6, s106_9, s106_10, s106_11, s106_12, s106_15, s106_16, s106_19, s106_22, s106_23, s106_24, s106_26, s106_29, s106_31, s106_32, s106_33, s106_36, s106_37, s106_40, s106_43, s106_44, c120, hi, c195, jcall_eq, Option.toList_some, Option.toList_none, List.cons_append, List.nil_append, jl_0, jl_1, jl_2, jl_3, jl_4, jl_5, jl_6, jl_7, jl_8, jl_9, jl_16, jl_17, jl_18, jl_19, jl_20, jb_0, Classical.not_not, jif, jifN]
    rw [if_pos h1]
  · refine ⟨M, iEq_rfl M, jE_of (fun v σ' => ?_)⟩
    unfold lwClaq
    rw [if_neg h1]
    simp only [lw, List.map_cons, List.map_nil, s106_0, s106_1, s106_2, s106_3, s106_6, s106_9, s106_10, c120, jcall_eq, Option.toList_some, Option.toList_none, List.cons_append, List.nil_append, jb_0, Classical.not_not, jifN]
    rw [if_neg h1]
/-- falls -/
theorem l107 {l : Nat} (hb : gH M 1 10 12 = jn l) (hl : l ≤ 7) : ∃ M1, iEq M M1 ∧ jE (d + 20) 107 0 (lw []) [] (n, ([], M)) (some (.inl (fkCut (gH M 1)))) (n, ([], M1)) := by
  obtain ⟨h', nv', e⟩ := c50 (d := d + 14) (n := n) (M := M) hb hl
  refine ⟨sH (sN M 10 nv') 14 h', iEq_tr (iEq_sN (by decide)) (iEq_sH (Or.inr (by decide))), jE_of (fun v σ' => ?_)⟩
  have hi := fun (v : Option jV) (σ' : jS) => jE_iff (v := v) (σ' := σ') e
  simp only [lw, List.map_nil, s107_0, s107_1, s107_4, s107_5, s107_8, s107_11, hi, jcall_eq, Option.toList_some, Option.toList_none, List.cons_append, List.nil_append]
/-- run -/
theorem l108 : ∃ M1, iEq M M1 ∧ jE (d + 20) 108 0 (lw []) [] (n, ([], M)) (some (.inl (jn (naRun 30 0 (gH M 1))))) (n, ([], M1)) := by
  obtain ⟨h', nv', e⟩ := c51 (d := d + 14) (n := n) (M := M)
  refine ⟨sH (sN M 10 nv') 14 h', iEq_tr (iEq_sN (by decide)) (iEq_sH (Or.inr (by decide))), jE_of (fun v σ' => ?_)⟩
  have hi := fun (v : Option jV) (σ' : jS) => jE_iff (v := v) (σ' := σ') e
  simp only [lw, List.map_nil, s108_0, s108_1, s108_4, s108_5, s108_8, s108_11, hi, jcall_eq, Option.toList_some, Option.toList_none, List.cons_append, List.nil_append]
/-- most -/
theorem l109 (w : hOk K a b l (gH M 1)) : ∃ M1, iEq M M1 ∧ jE (d + 20) 109 0 (lw [.inl x]) [] (n, ([], M)) (some (.inl (lwMost (gH M 1) x))) (n, ([], M1)) := by
  by_cases h1 : 0 ≤ x ∧ x ≤ 1
  · obtain ⟨h', nv', e⟩ := c52 (d := d + 14) (n := n) (M := M) w.2.1.2.2 (fun k hk hx => by
      rw [hOk_C w] at hk
      have := hOk_room w hk hx
      have := w.1
      omega)
    refine ⟨_, iEq_tr (iEq_tr (iEq_mO (x := (faBest (gH M 1)).1) (y := (faBest (gH M 1)).2)) (iEq_sN (q := 10) (h := nv') (by decide))) (iEq_sH (i := 14) (h := h') (Or.inr (by decide))), jE_of (fun v σ' => ?_)⟩
    unfold lwMost
    rw [if_pos h1]
    simp only [lw, List.map_cons, List.map_nil, s109_0, s109_1, s109_2, s109_3, s109_6, s109_9, s109_10, s109_11, s109_12, s109_15, s109_16, s109_19, s109_22, s109_23, s109_26, s109_27, s109_30, s109_33, s109_36, s109_37, s109_40, s109_43, c120, e, jcall_eq, Option.toList_some, Option.toList_none, List.cons_append, List.nil_append, jl_0, jl_1, jl_2, jl_3, jl_4, jl_5, jl_6, jl_7, jl_8, jl_9, jl_16, jl_17, jl_18, jl_19, jl_20, jb_0, Classical.not_not, jif, jifN, sH_k (show (5 : Nat) ≠ 12 by decide) (show (5 : Nat) ≠ 1 by decide), sN_k _ _ _ (show (5 : Nat) ≠ 12 by decide) (show (5 : Nat) ≠ 4 by decide), mO_2, mO_3]
    rw [if_pos h1]
  · refine ⟨M, iEq_rfl M, jE_of (fun v σ' => ?_)⟩
    unfold lwMost
    rw [if_neg h1]
    simp only [lw, List.map_cons, List.map_nil, s109_0, s109_1, s109_2, s109_3, s109_6, s109_9, s109_10, c120, jcall_eq, Option.toList_some, Option.toList_none, List.cons_append, List.nil_append, jb_0, Classical.not_not, jifN]
    rw [if_neg h1]
/-- fits -/
theorem l112 : ∃ M1, iEq M M1 ∧ jE (d + 20) 112 0 (lw [.inl x, .inl y]) [] (n, ([], M)) (some (.inl (lwFits M (gH M 1) x y))) (n, ([], M1)) := by
  by_cases h1 : 0 ≤ x ∧ x ≤ gH M 1 10 11 - 1
  · have h1' : 0 ≤ x ∧ x ≤ M 1 (0, 1) 11 - 1 := h1
    by_cases h2 : 0 ≤ y ∧ y ≤ 1
    · by_cases h3 : y = 0
      · obtain ⟨h', nv', e⟩ := c54 (d := d + 14) (n := n) (M := M) (x := x)
        have hi := fun (v : Option jV) (σ' : jS) => jE_iff (v := v) (σ' := σ') e
        refine ⟨sH (sN M 10 nv') 14 h', iEq_tr (iEq_sN (by decide)) (iEq_sH (Or.inr (by decide))), jE_of (fun v σ' => ?_)⟩
        unfold lwFits
        rw [if_pos ⟨h1, h2⟩, if_pos h3]
        simp only [lw, List.map_cons, List.map_nil, s112_0, s112_1, s112_4, s112_5, s112_8, s112_11, s112_12, s112_13, s112_14, s112_17, s112_22, s112_23, s112_26, s112_27, s112_30, s112_31, s112_34, s112_35, s112_38, s112_39, s112_42, s112_61, c13, c120, hi, jcall_eq, Option.toList_some, Option.toList_none, List.cons_append, List.nil_append, jl_0, jl_1, jl_2, jl_3, jl_4, jl_5, jl_6, jl_7, jl_8, jl_9, jl_16, jl_17, jl_18, jl_19, jl_20, jb_0, Classical.not_not, jifN]
        rw [if_pos h1', if_pos h2, if_pos h3]
      · obtain ⟨h', nv', e⟩ := c55 (d := d + 14) (n := n) (M := M) (x := x)
        have hi := fun (v : Option jV) (σ' : jS) => jE_iff (v := v) (σ' := σ') e
        refine ⟨sH (sN M 10 nv') 14 h', iEq_tr (iEq_sN (by decide)) (iEq_sH (Or.inr (by decide))), jE_of (fun v σ' => ?_)⟩
        unfold lwFits
        rw [if_pos ⟨h1, h2⟩, if_neg h3]
        simp only [lw, List.map_cons, List.map_nil, s112_0, s112_1, s112_4, s112_5, s112_8, s112_11, s112_12, s112_13, s112_14, s112_17, s112_22, s112_23, s112_45, s112_46, s112_49, s112_50, s112_53, s112_54, s112_57, s112_58, s112_61, c13, c120, hi, jcall_eq, Option.toList_some, Option.toList_none, List.cons_append, List.nil_append, jl_0, jl_1, jl_2, jl_3, jl_4, jl_5, jl_6, jl_7, jl_8, jl_9, jl_16, jl_17, jl_18, jl_19, jl_20, jb_0, Classical.not_not, jifN]
        rw [if_pos h1', if_pos h2, if_neg h3]
    · refine ⟨M, iEq_rfl M, jE_of (fun v σ' => ?_)⟩
      unfold lwFits
      rw [if_neg (fun z => h2 z.2)]
      simp only [lw, List.map_cons, List.map_nil, s112_0, s112_1, s112_4, s112_5, s112_8, s112_11, s112_12, s112_13, s112_14, s112_17, s112_20, s112_21, c13, c120, jcall_eq, Option.toList_some, Option.toList_none, List.cons_append, List.nil_append, jb_0, Classical.not_not, jifN]
      rw [if_pos h1', if_neg h2]
  · have h1' : ¬ (0 ≤ x ∧ x ≤ M 1 (0, 1) 11 - 1) := h1
    refine ⟨M, iEq_rfl M, jE_of (fun v σ' => ?_)⟩
    unfold lwFits
    rw [if_neg (fun z => h1 z.1)]
    simp only [lw, List.map_cons, List.map_nil, s112_0, s112_1, s112_4, s112_5, s112_8, s112_20, s112_21, c13, jcall_eq, Option.toList_some, Option.toList_none, List.cons_append, List.nil_append, jb_0, Classical.not_not, jifN]
    rw [if_neg h1']
/-- coughs -/
theorem l113 : ∃ M1, iEq M M1 ∧ jE (d + 20) 113 0 (lw [.inl x, .inl y]) [] (n, ([], M)) (some (.inl (lwCough (gH M 1) x y))) (n, ([], M1)) := by
  by_cases h1 : 0 ≤ x ∧ x ≤ 10
  · by_cases h2 : 0 ≤ y ∧ y ≤ 1
    · obtain ⟨nv', e⟩ := c1 (d := d + 15) (n := n) (M := M) (x := x)
      have hi := fun (v : Option jV) (σ' : jS) => jE_iff (v := v) (σ' := σ') e
      refine ⟨_, iEq_tr (iEq_mA (x := (cgRes (gH M 1) x).1) (y := (cgRes (gH M 1) x).2)) (iEq_sN (q := 11) (h := nv') (by decide)), jE_of (fun v σ' => ?_)⟩
      unfold lwCough
      rw [if_pos ⟨h1, h2⟩]
      simp only [lw, List.map_cons, List.map_nil, s113_0, s113_1, s113_2, s113_4, s113_7, s113_10, s113_11, s113_12, s113_13, s113_16, s113_19, s113_20, s113_21, s113_22, s113_25, s113_26, s113_29, s113_30, s113_33, s113_34, s113_37, s113_38, s113_41, s113_44, s113_47, s113_48, s113_51, s113_54, c120, hi, jcall_eq, Option.toList_some, Option.toList_none, List.cons_append, List.nil_append, jl_0, jl_1, jl_2, jl_3, jl_4, jl_5, jl_6, jl_7, jl_8, jl_9, jl_16, jl_17, jl_18, jl_19, jl_20, jb_0, Classical.not_not, jif, jifN, sN_A, mA_2, mA_3]
      rw [if_pos h1, if_pos h2]
    · refine ⟨M, iEq_rfl M, jE_of (fun v σ' => ?_)⟩
      unfold lwCough
      rw [if_neg (fun z => h2 z.2)]
      simp only [lw, List.map_cons, List.map_nil, s113_0, s113_1, s113_2, s113_4, s113_7, s113_10, s113_11, s113_12, s113_13, s113_16, s113_19, s113_20, c120, jcall_eq, Option.toList_some, Option.toList_none, List.cons_append, List.nil_append, jb_0, Classical.not_not, jifN]
      rw [if_pos h1, if_neg h2]
  · refine ⟨M, iEq_rfl M, jE_of (fun v σ' => ?_)⟩
    unfold lwCough
    rw [if_neg (fun z => h1 z.1)]
    simp only [lw, List.map_cons, List.map_nil, s113_0, s113_1, s113_2, s113_4, s113_7, s113_19, s113_20, c120, jcall_eq, Option.toList_some, Option.toList_none, List.cons_append, List.nil_append, jb_0, Classical.not_not, jifN]
    rw [if_neg h1]
end JLW
