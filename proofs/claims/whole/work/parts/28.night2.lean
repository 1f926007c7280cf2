/-! a night: leave, bore, isDrivenOut, carries -/
def nLeave (h nv : Nat → Nat → Int32) (place act : Int32) : Nat → Nat → Int32 :=
  nset (nset (nset nv 1 (rs 7 (nv 1) (rg 7 (h 9) place) (act + 1))) 4 (rs 7 (nv 4) place 1)) 5 (fun _ => nv 5 0 + 1)
def nMore (h : Nat → Nat → Int32) (scene : Int32) : Int32 := rg 7 (h 1) scene + 2 * jmin 3 (rg 7 (h 3) scene)
def nBored (h nv : Nat → Nat → Int32) (seat scene : Int32) : Int32 :=
  if rg 7 (h 6) seat = rg 7 (h 0) scene then jmax 0 (rg 7 (nv 0) seat - rg 7 (h 1) scene / 2)
  else rg 7 (nv 0) seat + if rg 7 (h 5) seat = 2 then 2 * nMore h scene else nMore h scene
def nBore (h nv : Nat → Nat → Int32) (seat scene : Int32) : Nat → Nat → Int32 :=
  if rg 7 (h 5) seat = 1 then nset (nset nv 0 (rs 7 (nv 0) seat (nBored h nv seat scene))) 2 (rs 7 (nv 2) seat (jb (rg 7 (h 7) seat < rg 7 (rs 7 (nv 0) seat (nBored h nv seat scene)) seat)))
  else nset nv 0 (rs 7 (nv 0) seat (nBored h nv seat scene))
abbrev nOut (h nv : Nat → Nat → Int32) (place : Int32) : Prop :=
  (¬ rg 7 (h 5) (rg 7 (h 9) place) = 1 ∧ ¬ rg 7 (h 5) (rg 7 (h 9) place) = 3) ∧ jmax 0 (rg 7 (h 7) (rg 7 (h 9) place) - 3 * (rg 7 (nv 4) (place - 1) + rg 7 (nv 4) (place + 1))) < rg 7 (nv 0) (rg 7 (h 9) place)
abbrev nCarry (h nv : Nat → Nat → Int32) : Prop := 0 < h 10 12 ∧ 2 * h 10 11 ≤ 3 * (h 10 11 - nv 5 0)
theorem gh_0 (M : jM) (i : Nat) : gH M i 0 = M 12 (0, i) := rfl
theorem gh_1 (M : jM) (i : Nat) : gH M i 1 = M 12 (1, i) := rfl
theorem gh_2 (M : jM) (i : Nat) : gH M i 2 = M 12 (2, i) := rfl
theorem gh_3 (M : jM) (i : Nat) : gH M i 3 = M 12 (3, i) := rfl
theorem gh_4 (M : jM) (i : Nat) : gH M i 4 = M 12 (4, i) := rfl
theorem gh_5 (M : jM) (i : Nat) : gH M i 5 = M 12 (5, i) := rfl
theorem gh_6 (M : jM) (i : Nat) : gH M i 6 = M 12 (6, i) := rfl
theorem gh_7 (M : jM) (i : Nat) : gH M i 7 = M 12 (7, i) := rfl
theorem gh_8 (M : jM) (i : Nat) : gH M i 8 = M 12 (8, i) := rfl
theorem gh_9 (M : jM) (i : Nat) : gH M i 9 = M 12 (9, i) := rfl
theorem gh_10 (M : jM) (i : Nat) : gH M i 10 = M 1 (0, i) := rfl
section JN2
variable {d n i q : Nat} {v : Option jV} {σ' : jS} {M : jM} {x y z : Int32} {nv : Nat → Nat → Int32}
/-- Night.leave -/
theorem c45 : jE (d + 1) 45 0 [some (.inr (.inr (some (4, (0, q))))), some (.inr (.inr (some (1, (0, i))))), some (.inl x), some (.inl y)] [] (n, ([], sN M q nv)) v σ' ↔ v = none ∧ σ' = (n, ([], sN M q (nLeave (gH M i) nv x y))) := by
  simp only [s45_0, s45_1, s45_4, s45_5, s45_8, s45_9, s45_12, s45_13, s45_14, s45_15, s45_18, s45_19, s45_22, s45_23, s45_24, s45_27, s45_28, s45_29, s45_32, s45_33, s45_34, s45_37, c59, c60, jcall_eq, Option.toList_some, Option.toList_none, List.cons_append, List.nil_append, jl_0, jl_1, jl_2, jl_3, jl_4, jl_5, jl_6, jl_7, jl_8, jl_9, jl_16, jl_17, jl_18, jl_19, jl_20, sN_h9, sN_p1, sN_p4, sN_gone, sN_up]
  rfl
/-- Night.carries -/
theorem c43 : jE d 43 0 [some (.inr (.inr (some (4, (0, q))))), some (.inr (.inr (some (1, (0, i)))))] [] (n, ([], M)) v σ' ↔ v = some (.inl (jb (nCarry (gH M i) (gN M q)))) ∧ σ' = (n, ([], M)) := by
  simp only [s43_0, s43_1, s43_4, s43_7, s43_8, s43_9, s43_12, s43_13, s43_16, s43_17, s43_18, s43_19, s43_20, s43_23, s43_24, s43_27, s43_28, s43_31, s43_32]
  unfold jb nCarry
  show _ ↔ v = some (.inl (if (0 < M 1 (0, i) 12 ∧ 2 * M 1 (0, i) 11 ≤ 3 * (M 1 (0, i) 11 - M 4 (0, q) 5)) then 1 else 0)) ∧ _
  by_cases h1 : M 1 (0, i) 12 ≤ 0
  · rw [if_pos h1, if_neg (fun z => absurd z.1 (Int32.not_lt.mpr h1))]
    exact ⟨fun z => z.2, fun z => ⟨by simp, z⟩⟩
  · rw [if_neg h1]
    by_cases h2 : 2 * M 1 (0, i) 11 ≤ 3 * (M 1 (0, i) 11 - M 4 (0, q) 5)
    · rw [if_neg (Int32.not_lt.mpr h2), if_pos ⟨Int32.not_le.mp h1, h2⟩]
      exact ⟨fun z => z.2, fun z => ⟨by simp, z⟩⟩
    · rw [if_pos (Int32.not_le.mp h2), if_neg (fun z => h2 z.2)]
      exact ⟨fun z => z.2, fun z => ⟨by simp, z⟩⟩
/-- Night.isDrivenOut -/
theorem c47 : jE (d + 1) 47 0 [some (.inr (.inr (some (4, (0, q))))), some (.inr (.inr (some (1, (0, i))))), some (.inl x), none, none, none] [] (n, ([], sN M q nv)) v σ' ↔ v = some (.inl (jb (nOut (gH M i) nv x))) ∧ σ' = (n, ([], sN M q nv)) := by
  simp only [s47_0, s47_1, s47_4, s47_5, s47_8, s47_9, s47_10, s47_13, s47_14, s47_17, s47_19, s47_21, s47_22, s47_25, s47_27, s47_28, s47_31, s47_32, s47_33, s47_34, s47_37, s47_38, s47_39, s47_40, s47_43, s47_44, s47_47, s47_48, s47_49, s47_50, s47_53, s47_54, s47_56, s47_57, s47_60, s47_61, s47_64, s47_65, s47_66, s47_69, s47_70, s47_73, s47_74, s47_76, s47_77, s47_78, s47_81, s47_84, s47_85, s47_88, s47_89, c59, jcall_eq, Option.toList_some, Option.toList_none, List.cons_append, List.nil_append, jl_0, jl_1, jl_2, jl_3, jl_4, jl_5, jl_6, jl_7, jl_8, jl_9, jl_16, jl_17, jl_18, jl_19, jl_20, sN_h5, sN_h7, sN_h9, sN_g0, sN_g4]
  unfold jb nOut jmax
  show _ ↔ v = some (.inl (if ((¬ rg 7 (M 12 (5, i)) (rg 7 (M 12 (9, i)) x) = 1 ∧ ¬ rg 7 (M 12 (5, i)) (rg 7 (M 12 (9, i)) x) = 3) ∧ (if 0 < rg 7 (M 12 (7, i)) (rg 7 (M 12 (9, i)) x) - 3 * (rg 7 (nv 4) (x - 1) + rg 7 (nv 4) (x + 1)) then rg 7 (M 12 (7, i)) (rg 7 (M 12 (9, i)) x) - 3 * (rg 7 (nv 4) (x - 1) + rg 7 (nv 4) (x + 1)) else 0) < rg 7 (nv 0) (rg 7 (M 12 (9, i)) x)) then 1 else 0)) ∧ _
  generalize rg 7 (M 12 (5, i)) (rg 7 (M 12 (9, i)) x) = k
  generalize (if 0 < rg 7 (M 12 (7, i)) (rg 7 (M 12 (9, i)) x) - 3 * (rg 7 (nv 4) (x - 1) + rg 7 (nv 4) (x + 1)) then rg 7 (M 12 (7, i)) (rg 7 (M 12 (9, i)) x) - 3 * (rg 7 (nv 4) (x - 1) + rg 7 (nv 4) (x + 1)) else 0) = t
  by_cases h1 : k = 1
  · rw [if_pos h1, if_neg (fun z => z.1.1 h1)]
    exact ⟨fun z => z.2, fun z => ⟨by simp, z⟩⟩
  · rw [if_neg h1]
    by_cases h3 : k = 3
    · rw [if_neg (fun z => z h3), if_neg (fun z => z.1.2 h3)]
      exact ⟨fun z => z.2, fun z => ⟨by simp, z⟩⟩
    · rw [if_pos h3]
      by_cases h4 : t < rg 7 (nv 0) (rg 7 (M 12 (9, i)) x)
      · rw [if_neg (Int32.not_le.mpr h4), if_pos ⟨⟨h1, h3⟩, h4⟩]
        exact ⟨fun z => z.2, fun z => ⟨by simp, z⟩⟩
      · rw [if_pos (Int32.not_lt.mp h4), if_neg (fun z => h4 z.2)]
        exact ⟨fun z => z.2, fun z => ⟨by simp, z⟩⟩
/-- Night.bore -/
theorem c46 : jE (d + 1) 46 0 [some (.inr (.inr (some (4, (0, q))))), some (.inr (.inr (some (1, (0, i))))), some (.inl x), some (.inl y), none, none, none, none] [] (n, ([], sN M q nv)) v σ' ↔ v = none ∧ σ' = (n, ([], sN M q (nBore (gH M i) nv x y))) := by
  simp only [s46_0, s46_1, s46_4, s46_5, s46_8, s46_10, s46_11, s46_14, s46_15, s46_18, s46_20, s46_21, s46_24, s46_25, s46_28, s46_30, s46_31, s46_34, s46_35, s46_38, s46_39, s46_42, s46_43, s46_46, s46_49, s46_50, s46_53, s46_54, s46_55, s46_57, s46_59, s46_60, s46_61, s46_62, s46_65, s46_68, s46_71, s46_73, s46_74, s46_75, s46_76, s46_79, s46_80, s46_83, s46_86, s46_87, s46_88, s46_90, s46_91, s46_94, s46_95, s46_97, s46_99, s46_100, s46_103, s46_104, s46_106, s46_107, s46_110, s46_112, s46_113, s46_116, s46_118, s46_119, s46_122, s46_123, s46_126, s46_127, s46_128, s46_131, s46_132, s46_135, s46_136, s46_139, s46_140, s46_143, s46_146, s46_147, s46_150, s46_151, s46_154, c59, c60, jcall_eq, Option.toList_some, Option.toList_none, List.cons_append, List.nil_append, jl_0, jl_1, jl_2, jl_3, jl_4, jl_5, jl_6, jl_7, jl_8, jl_9, jl_16, jl_17, jl_18, jl_19, jl_20, sN_h0, sN_h1, sN_h3, sN_h5, sN_h6, sN_h7, sN_g0, sN_p0, sN_p2, nset_at, nset_ne (show (2 : Nat) ≠ 0 by decide)]
  rw [← gh_0 M i, ← gh_1 M i, ← gh_3 M i, ← gh_5 M i, ← gh_6 M i, ← gh_7 M i]
  unfold nBore nBored nMore jmax jmin jb
  generalize gH M i = h
  by_cases h1 : rg 7 (h 6) x = rg 7 (h 0) y
  · rw [if_neg (fun z => z h1), if_pos h1]
    by_cases h3 : rg 7 (h 5) x = 1
    · rw [if_neg (fun z => z h3), if_pos h3]
      by_cases h4 : rg 7 (h 7) x < rg 7 (rs 7 (nv 0) x (if 0 < rg 7 (nv 0) x - rg 7 (h 1) y / 2 then rg 7 (nv 0) x - rg 7 (h 1) y / 2 else 0)) x
      · rw [if_pos h4]
        refine Iff.trans ⟨fun z => z.2, fun z => ⟨by decide, z⟩⟩ ?_
        rw [if_neg (show ¬ _ ≤ _ from Int32.not_le.mpr h4)]
      · rw [if_neg h4]
        refine Iff.trans ⟨fun z => z.2, fun z => ⟨by decide, z⟩⟩ ?_
        rw [if_pos (show _ ≤ _ from Int32.not_lt.mp h4)]
    · rw [if_pos h3, if_neg h3]
      exact ⟨fun z => z.2, fun z => ⟨by decide, z⟩⟩
  · rw [if_pos h1, if_neg h1]
    by_cases h2 : rg 7 (h 5) x = 2
    · rw [if_neg (fun z => z h2), if_pos h2]
      by_cases h3 : rg 7 (h 5) x = 1
      · rw [h3] at h2
        exact absurd h2 (by decide)
      · rw [if_pos h3, if_neg h3]
    · rw [if_pos h2, if_neg h2]
      by_cases h3 : rg 7 (h 5) x = 1
      · rw [if_neg (fun z => z h3), if_pos h3]
        by_cases h4 : rg 7 (h 7) x < rg 7 (rs 7 (nv 0) x (rg 7 (nv 0) x + (rg 7 (h 1) y + 2 * if rg 7 (h 3) y < 3 then rg 7 (h 3) y else 3))) x
        · rw [if_pos h4, if_neg (show ¬ _ ≤ _ from Int32.not_le.mpr h4)]
        · rw [if_neg h4, if_pos (show _ ≤ _ from Int32.not_lt.mp h4)]
      · rw [if_pos h3, if_neg h3]
end JN2
