/-! a night: watch, stage, unfold -/
def nWatch1 (act : Int32) (k : Nat) (nv : Nat → Nat → Int32) : Nat → Nat → Int32 :=
  if rg 7 (nv 1) (jn k) = 0 ∧ rg 7 (nv 2) (jn k) = 0 then nset nv 3 (rs 7 (nv 3) (jn k) (rg 7 (nv 3) (jn k) ||| 1 <<< (act &&& 31))) else nv
def nCough1 (h : Nat → Nat → Int32) (act cough : Int32) (k : Nat) (nv : Nat → Nat → Int32) : Nat → Nat → Int32 :=
  if cough >>> (rg 7 (h 9) (jn k) &&& 31) &&& 1 = 0 then nv else nLeave h nv (jn k) act
def nStep1 (h : Nat → Nat → Int32) (act : Int32) (k : Nat) (nv : Nat → Nat → Int32) : Nat → Nat → Int32 :=
  if rg 7 (nv 4) (jn k) = 0 then
    (if nOut h (nBore h nv (rg 7 (h 9) (jn k)) (rg 7 (h 4) act)) (jn k) then nLeave h (nBore h nv (rg 7 (h 9) (jn k)) (rg 7 (h 4) act)) (jn k) act else nBore h nv (rg 7 (h 9) (jn k)) (rg 7 (h 4) act))
  else nv
abbrev hS (h : Nat → Nat → Int32) : Nat := (h 10 11).toNatClampNeg
abbrev hB (h : Nat → Nat → Int32) : Nat := (h 10 12).toNatClampNeg
def nStage (h : Nat → Nat → Int32) (act cough : Int32) (nv : Nat → Nat → Int32) : Nat → Nat → Int32 :=
  jfor (nStep1 h act) (hS h) 0 (jfor (nCough1 h act cough) (hS h) 0 (jfor (nWatch1 act) (hS h) 0 nv))
def nUnfold (h : Nat → Nat → Int32) (cough : Int32) : Nat → Nat → Int32 :=
  jfor (fun k nv => nStage h (jn k) (if jn k = 0 then cough else 0) nv) (hB h) 0 (fun _ _ => 0)
section JN3
variable {d n i q : Nat} {v : Option jV} {σ' : jS} {M : jM} {x y z : Int32}
theorem c44_loop : ∀ (f k : Nat) (nv : Nat → Nat → Int32), k + f = hS (gH M i) ∨ (f = 0 ∧ hS (gH M i) ≤ k ∧ k < 2147483648) → (jE (d + 1) 44 2 [some (.inr (.inr (some (4, (0, q))))), some (.inr (.inr (some (1, (0, i))))), some (.inl x), some (.inl (jn k))] [] (n, ([], sN M q nv)) v σ' ↔ v = none ∧ σ' = (n, ([], sN M q (jfor (nWatch1 x) f k nv)))) := by
  intro f
  have hy := jx_lt (M 1 (0, i) 11)
  have he : hS (gH M i) = (M 1 (0, i) 11).toNatClampNeg := rfl
  induction f with
  | zero =>
    intro k nv hk
    simp only [s44_0, s44_1, s44_2, s44_3, s44_4, s44_7, s44_10, s44_11, s44_14, s44_15, s44_18, s44_21, s44_22, s44_25, s44_26, s44_29, s44_32, s44_33, s44_36, s44_37, s44_38, s44_41, s44_42, s44_45, s44_46, s44_47, s44_48, s44_49, s44_52, s44_58, c59, c60, jcall_eq, Option.toList_some, Option.toList_none, List.cons_append, List.nil_append, jl_0, jl_1, jl_2, jl_3, jl_4, jl_5, jl_6, jl_7, jl_8, jl_9, jl_16, jl_17, jl_18, jl_19, jl_20, sN_1, sN_g1, sN_g2, sN_g3, sN_p3]
    rw [if_pos (show M 1 (0, i) 11 ≤ jn k from (jn_ge (by omega)).mpr (by omega))]
    rfl
  | succ f ih =>
    intro k nv hk
    simp only [s44_0, s44_1, s44_2, s44_3, s44_4, s44_7, s44_10, s44_11, s44_14, s44_15, s44_18, s44_21, s44_22, s44_25, s44_26, s44_29, s44_32, s44_33, s44_36, s44_37, s44_38, s44_41, s44_42, s44_45, s44_46, s44_47, s44_48, s44_49, s44_52, s44_58, c59, c60, jcall_eq, Option.toList_some, Option.toList_none, List.cons_append, List.nil_append, jl_0, jl_1, jl_2, jl_3, jl_4, jl_5, jl_6, jl_7, jl_8, jl_9, jl_16, jl_17, jl_18, jl_19, jl_20, sN_1, sN_g1, sN_g2, sN_g3, sN_p3]
    rw [if_neg (show ¬ M 1 (0, i) 11 ≤ jn k from fun z => absurd ((jn_ge (by omega)).mp z) (by omega)), s44_55, s44_55, jn_1, ih (k + 1) _ (by omega), ih (k + 1) _ (by omega), jfor]
    unfold nWatch1
    by_cases h1 : rg 7 (nv 1) (jn k) = 0
    · rw [if_neg (fun z => z h1)]
      by_cases h2 : rg 7 (nv 2) (jn k) = 0
      · rw [if_neg (fun z => z h2), if_pos ⟨h1, h2⟩]
      · rw [if_pos h2, if_neg (fun z => h2 z.2)]
    · rw [if_pos h1, if_neg (fun z => h1 z.1)]
/-- Night.watch -/
theorem c44 {nv : Nat → Nat → Int32} : jE (d + 1) 44 0 [some (.inr (.inr (some (4, (0, q))))), some (.inr (.inr (some (1, (0, i))))), some (.inl x), none] [] (n, ([], sN M q nv)) v σ' ↔ v = none ∧ σ' = (n, ([], sN M q (jfor (nWatch1 x) (hS (gH M i)) 0 nv))) := by
  rw [s44_0, s44_1]
  exact c44_loop (hS (gH M i)) 0 nv (by omega)
theorem c42_cough : ∀ (f k : Nat) (nv : Nat → Nat → Int32), k + f = hS (gH M i) ∨ (f = 0 ∧ hS (gH M i) ≤ k ∧ k < 2147483648) → (jE (d + 2) 42 9 [some (.inr (.inr (some (4, (0, q))))), some (.inr (.inr (some (1, (0, i))))), some (.inl x), some (.inl y), some (.inl (jn k))] [] (n, ([], sN M q nv)) v σ' ↔ jE (d + 2) 42 51 [some (.inr (.inr (some (4, (0, q))))), some (.inr (.inr (some (1, (0, i))))), some (.inl x), some (.inl y), some (.inl (jn 0))] [] (n, ([], sN M q (jfor (nCough1 (gH M i) x y) f k nv))) v σ') := by
  intro f
  have hy := jx_lt (M 1 (0, i) 11)
  have he : hS (gH M i) = (M 1 (0, i) 11).toNatClampNeg := rfl
  induction f with
  | zero =>
    intro k nv hk
    rw [s42_9, s42_11, s42_12, s42_15, sN_1, if_pos (show M 1 (0, i) 11 ≤ jn k from (jn_ge (by omega)).mpr (by omega)), s42_48, s42_49]
    rfl
  | succ f ih =>
    intro k nv hk
    rw [s42_9, s42_11, s42_12, s42_15, sN_1, if_neg (show ¬ M 1 (0, i) 11 ≤ jn k from fun z => absurd ((jn_ge (by omega)).mp z) (by omega))]
    simp only [s42_18, s42_19, s42_20, s42_23, s42_25, s42_28, s42_31, s42_34, s42_35, s42_36, s42_38, s42_39, s42_42, c59, c121, c45, jcall_eq, Option.toList_some, Option.toList_none, List.cons_append, List.nil_append, jl_0, jl_1, jl_2, jl_3, jl_4, jl_5, jl_6, jl_7, jl_8, jl_9, jl_16, jl_17, jl_18, jl_19, jl_20, sN_h9, jb_0, Classical.not_not]
    rw [s42_45, s42_45, jn_1, ih (k + 1) _ (by omega), ih (k + 1) _ (by omega), jfor]
    unfold nCough1
    rw [← gh_9 M i]
    by_cases h1 : y >>> (rg 7 (gH M i 9) (jn k) &&& 31) &&& 1 = 0
    · rw [if_pos h1, if_pos h1]
    · rw [if_neg h1, if_neg h1]
theorem c42_step : ∀ (f k : Nat) (nv : Nat → Nat → Int32), k + f = hS (gH M i) ∨ (f = 0 ∧ hS (gH M i) ≤ k ∧ k < 2147483648) → (jE (d + 2) 42 51 [some (.inr (.inr (some (4, (0, q))))), some (.inr (.inr (some (1, (0, i))))), some (.inl x), some (.inl y), some (.inl (jn k))] [] (n, ([], sN M q nv)) v σ' ↔ v = none ∧ σ' = (n, ([], sN M q (jfor (nStep1 (gH M i) x) f k nv)))) := by
  intro f
  have hy := jx_lt (M 1 (0, i) 11)
  have he : hS (gH M i) = (M 1 (0, i) 11).toNatClampNeg := rfl
  induction f with
  | zero =>
    intro k nv hk
    rw [s42_51, s42_53, s42_54, s42_57, sN_1, if_pos (show M 1 (0, i) 11 ≤ jn k from (jn_ge (by omega)).mpr (by omega)), s42_121]
    rfl
  | succ f ih =>
    intro k nv hk
    rw [s42_51, s42_53, s42_54, s42_57, sN_1, if_neg (show ¬ M 1 (0, i) 11 ≤ jn k from fun z => absurd ((jn_ge (by omega)).mp z) (by omega))]
    simp only [s42_60, s42_61, s42_64, s42_66, s42_69, s42_72, s42_75, s42_76, s42_77, s42_78, s42_81, s42_83, s42_86, s42_87, s42_90, s42_91, s42_94, s42_97, s42_98, s42_99, s42_101, s42_104, s42_107, s42_108, s42_109, s42_111, s42_112, s42_115, c59, c46, c47, c45, jcall_eq, Option.toList_some, Option.toList_none, List.cons_append, List.nil_append, jl_0, jl_1, jl_2, jl_3, jl_4, jl_5, jl_6, jl_7, jl_8, jl_9, jl_16, jl_17, jl_18, jl_19, jl_20, sN_h9, sN_h4, sN_g4, jb_0]
    simp only [s42_118, jn_1, ih (k + 1) _ (show k + 1 + f = hS (gH M i) ∨ (f = 0 ∧ hS (gH M i) ≤ k + 1 ∧ k + 1 < 2147483648) by omega)]
    rw [jfor]
    unfold nStep1
    rw [← gh_9 M i, ← gh_4 M i]
    by_cases h1 : rg 7 (nv 4) (jn k) = 0
    · rw [if_pos h1, if_pos h1]
      by_cases h2 : nOut (gH M i) (nBore (gH M i) nv (rg 7 (gH M i 9) (jn k)) (rg 7 (gH M i 4) x)) (jn k)
      · rw [if_neg (fun z => z h2), if_pos h2]
      · rw [if_pos h2, if_neg h2]
    · rw [if_neg h1, if_neg h1]
/-- Night.stage -/
theorem c42 {nv : Nat → Nat → Int32} : jE (d + 2) 42 0 [some (.inr (.inr (some (4, (0, q))))), some (.inr (.inr (some (1, (0, i))))), some (.inl x), some (.inl y), none] [] (n, ([], sN M q nv)) v σ' ↔ v = none ∧ σ' = (n, ([], sN M q (nStage (gH M i) x y nv))) := by
  simp only [s42_0, s42_1, s42_2, s42_3, c44, jcall_eq, Option.toList_some, Option.toList_none, List.cons_append, List.nil_append]
  rw [s42_6, s42_7, show (0 : Int32) = jn 0 from rfl, c42_cough (hS (gH M i)) 0 _ (by omega), c42_step (hS (gH M i)) 0 _ (by omega)]
  rfl
theorem c41_loop : ∀ (f k : Nat) (nv : Nat → Nat → Int32), k + f = hB (gH M i) ∨ (f = 0 ∧ hB (gH M i) ≤ k ∧ k < 2147483648) → (jE (d + 3) 41 6 [some (.inr (.inr (some (4, (0, q))))), some (.inr (.inr (some (1, (0, i))))), some (.inl x), some (.inl (jn k))] [] (n, ([], sN M q nv)) v σ' ↔ v = none ∧ σ' = (n, ([], sN M q (jfor (fun k nv => nStage (gH M i) (jn k) (if jn k = 0 then x else 0) nv) f k nv)))) := by
  intro f
  have hy := jx_lt (M 1 (0, i) 12)
  have he : hB (gH M i) = (M 1 (0, i) 12).toNatClampNeg := rfl
  induction f with
  | zero =>
    intro k nv hk
    rw [s41_6, s41_7, s41_8, s41_11, sN_1, if_pos (show M 1 (0, i) 12 ≤ jn k from (jn_ge (by omega)).mpr (by omega)), s41_35]
    rfl
  | succ f ih =>
    intro k nv hk
    rw [s41_6, s41_7, s41_8, s41_11, sN_1, if_neg (show ¬ M 1 (0, i) 12 ≤ jn k from fun z => absurd ((jn_ge (by omega)).mp z) (by omega))]
    simp only [s41_14, s41_15, s41_16, s41_17, s41_18, s41_21, s41_22, s41_25, s41_26, s41_29, c42, jcall_eq, Option.toList_some, Option.toList_none, List.cons_append, List.nil_append]
    simp only [s41_32, jn_1, ih (k + 1) _ (show k + 1 + f = hB (gH M i) ∨ (f = 0 ∧ hB (gH M i) ≤ k + 1 ∧ k + 1 < 2147483648) by omega)]
    rw [jfor]
    by_cases h1 : jn k = 0
    · rw [if_neg (fun z => z h1), if_pos h1]
    · rw [if_pos h1, if_neg h1]
/-- Night.unfold -/
theorem c41 : jE (d + 3) 41 0 [some (.inr (.inr (some (4, (0, q))))), some (.inr (.inr (some (1, (0, i))))), some (.inl x), none] [] (n, ([], M)) v σ' ↔ v = none ∧ σ' = (n, ([], sN M q (nUnfold (gH M i) x))) := by
  simp only [s41_0, s41_1, c39, jcall_eq, Option.toList_some, Option.toList_none, List.cons_append, List.nil_append]
  rw [s41_4, s41_5, show (0 : Int32) = jn 0 from rfl]
  exact c41_loop (hB (gH M i)) 0 _ (by omega)
end JN3
