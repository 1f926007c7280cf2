/-! a house: settle, tellScene, tellSeat; laid aside; what was seen -/
theorem sT_comm (M : jM) (i q : Nat) (h nv : Nat → Nat → Int32) : sN (sH M i h) q nv = sH (sN M q nv) i h := by
  funext k a s
  show (if k = 12 ∧ a.2 = q ∧ (16 ≤ a.1 ∧ a.1 < 21) ∧ s < 7 then nv (a.1 - 16) s else if k = 4 ∧ a = (0, q) ∧ s = 5 then nv 5 0 else if k = 12 ∧ a.2 = i ∧ a.1 < 10 ∧ s < 7 then h a.1 s else if k = 1 ∧ a = (0, i) ∧ (10 ≤ s ∧ s < 16) then h 10 s else M k a s) = (if k = 12 ∧ a.2 = i ∧ a.1 < 10 ∧ s < 7 then h a.1 s else if k = 1 ∧ a = (0, i) ∧ (10 ≤ s ∧ s < 16) then h 10 s else if k = 12 ∧ a.2 = q ∧ (16 ≤ a.1 ∧ a.1 < 21) ∧ s < 7 then nv (a.1 - 16) s else if k = 4 ∧ a = (0, q) ∧ s = 5 then nv 5 0 else M k a s)
  by_cases h1 : k = 12 ∧ a.2 = q ∧ (16 ≤ a.1 ∧ a.1 < 21) ∧ s < 7
  · rw [if_pos h1, if_neg (by omega), if_neg (by omega), if_pos h1]
  · rw [if_neg h1]
    by_cases h2 : k = 4 ∧ a = (0, q) ∧ s = 5
    · rw [if_pos h2, if_neg (by omega), if_neg (by omega), if_neg h1, if_pos h2]
    · rw [if_neg h2, if_neg h1, if_neg h2]
theorem nCarry_T (M : jM) (i q : Nat) (h nv : Nat → Nat → Int32) : nCarry (gH (sH (sN M q nv) i h) i) (gN (sH (sN M q nv) i h) q) = nCarry h nv := by
  rw [nCarry_E (hEq_gH _ i h), gN_sH]
  unfold nCarry
  rw [show gN (sN M q nv) q 5 0 = nv 5 0 from sN_gone M q nv]
theorem nCarry_T1 (M : jM) (i q : Nat) (h : Nat → Nat → Int32) : nCarry (gH (sH M i h) i) (gN (sH M i h) q) = nCarry h (gN M q) := by
  rw [nCarry_E (hEq_gH _ i h), gN_sH]
theorem nUnfold_T (M : jM) (i : Nat) (h : Nat → Nat → Int32) (x : Int32) : nUnfold (gH (sH M i h) i) x = nUnfold h x := nUnfold_E (hEq_gH M i h) x
theorem nCarry_N (M : jM) (q : Nat) (h nv : Nat → Nat → Int32) : nCarry h (gN (sN M q nv) q) = nCarry h nv := by
  unfold nCarry
  rw [show gN (sN M q nv) q 5 0 = nv 5 0 from sN_gone M q nv]
theorem gN_5 (M : jM) (q : Nat) : gN M q 5 0 = M 4 (0, q) 5 := rfl
theorem gN_3 (M : jM) (q : Nat) : gN M q 3 = M 12 (19, q) := rfl
section JH4
variable {d n i q : Nat} {v : Option jV} {σ' : jS} {M : jM} {x y z : Int32}
set_option maxHeartbeats 1000000 in
/-- House.settle -/
theorem c26 {h : Nat → Nat → Int32} : jE (d + 3) 26 0 [some (.inr (.inr (some (1, (0, i))))), some (.inr (.inr (some (4, (0, q))))), none, none] [] (n, ([], sH M i h)) v σ' ↔ v = none ∧ σ' = (n, ([], sH M i (hSettle (gN M q) h))) := by
  have key : ∀ h : Nat → Nat → Int32, jE (d + 3) 26 23 [some (.inr (.inr (some (1, (0, i))))), some (.inr (.inr (some (4, (0, q))))), none, none] [] (n, ([], sH M i h)) v σ' ↔ v = none ∧ σ' = (n, ([], sH M i (hTire (hSettle3 (hSettle2 (gN M q) h))))) := by
    intro h
    simp only [s26_23, s26_24, s26_27, s26_28, s26_29, s26_32, s26_33, s26_34, s26_35, s26_38, s26_39, s26_40, s26_41, s26_44, s26_45, s26_48, s26_49, s26_50, s26_51, s26_52, s26_55, s26_58, s26_59, s26_60, s26_63, s26_64, s26_65, s26_68, s26_69, s26_72, c22, c27, jcall_eq, Option.toList_some, Option.toList_none, List.cons_append, List.nil_append, sH_g0, sH_g1, sH_g2, sH_g3, sH_g4, sH_g5, sH_g6, sH_g7, sH_g8, sH_g9, sH_p0, sH_p1, sH_p2, sH_p3, sH_p4, sH_p5, sH_p6, sH_p7, sH_p8, sH_p9, sH_s10, sH_s11, sH_s12, sH_s13, sH_s14, sH_s15, sH_u10, sH_u11, sH_u12, sH_u13, sH_u14, sH_u15]
    rw [sH_k (show (4 : Nat) ≠ 12 by decide) (by decide)]
    rfl
  simp only [s26_0, s26_1, s26_2, s26_5, c43, jcall_eq, Option.toList_some, Option.toList_none, List.cons_append, List.nil_append, nCarry_T1, jb_0]
  by_cases h1 : nCarry h (gN M q)
  · rw [if_neg (fun w => w h1)]
    simp only [s26_8, s26_9, s26_10, s26_13, s26_14, s26_15, s26_18, s26_19, s26_20, c28, jcall_eq, Option.toList_some, Option.toList_none, List.cons_append, List.nil_append, sH_g0, sH_g1, sH_g2, sH_g3, sH_g4, sH_g5, sH_g6, sH_g7, sH_g8, sH_g9, sH_p0, sH_p1, sH_p2, sH_p3, sH_p4, sH_p5, sH_p6, sH_p7, sH_p8, sH_p9, sH_s10, sH_s11, sH_s12, sH_s13, sH_s14, sH_s15, sH_u10, sH_u11, sH_u12, sH_u13, sH_u14, sH_u15]
    rw [key]
    unfold hSettle hSettle1 hSc
    rw [if_pos h1]
    rfl
  · rw [if_pos h1, key]
    unfold hSettle hSettle1
    rw [if_neg h1]
def hTell (f1 f2 f3 s : Nat) (x y z : Int32) (h : Nat → Nat → Int32) : Nat → Nat → Int32 :=
  hSc (nset (nset (nset h f1 (rs 7 (h f1) (h 10 s) x)) f2 (rs 7 (h f2) (h 10 s) y)) f3 (rs 7 (h f3) (h 10 s) z)) s (h 10 s + 1)
/-- House.tellScene, tellSeat -/
theorem c10 {h : Nat → Nat → Int32} : jE (d + 1) 10 0 [some (.inr (.inr (some (1, (0, i))))), some (.inl x), some (.inl y), some (.inl z)] [] (n, ([], sH M i h)) v σ' ↔ v = some (.inl (jb (h 10 10 < 7))) ∧ σ' = (n, ([], sH M i (if h 10 10 < 7 then hTell 0 1 2 10 x y z h else h))) := by
  simp only [s10_0, s10_1, s10_4, s10_6, s10_9, s10_10, s10_11, s10_12, s10_15, s10_16, s10_19, s10_20, s10_23, s10_24, s10_27, s10_28, s10_31, s10_32, s10_35, s10_36, s10_39, s10_40, s10_43, s10_44, s10_47, s10_48, s10_49, s10_52, s10_53, s10_54, s10_57, s10_58, c60, jcall_eq, Option.toList_some, Option.toList_none, List.cons_append, List.nil_append, jl_0, jl_1, jl_2, jl_3, jl_4, jl_5, jl_6, jl_7, jl_8, jl_9, jl_16, jl_17, jl_18, jl_19, jl_20, sH_g0, sH_g1, sH_g2, sH_g3, sH_g4, sH_g5, sH_g6, sH_g7, sH_g8, sH_g9, sH_p0, sH_p1, sH_p2, sH_p3, sH_p4, sH_p5, sH_p6, sH_p7, sH_p8, sH_p9, sH_s10, sH_s11, sH_s12, sH_s13, sH_s14, sH_s15, sH_u10, sH_u11, sH_u12, sH_u13, sH_u14, sH_u15]
  unfold jb
  by_cases h1 : h 10 10 < 7
  · rw [if_pos h1, if_pos h1, if_pos h1]
    exact ⟨fun w => w.2, fun w => ⟨by simp, w⟩⟩
  · rw [if_neg h1, if_neg h1, if_neg h1]
    exact ⟨fun w => w.2, fun w => ⟨by simp, w⟩⟩
theorem c11 {h : Nat → Nat → Int32} : jE (d + 1) 11 0 [some (.inr (.inr (some (1, (0, i))))), some (.inl x), some (.inl y), some (.inl z)] [] (n, ([], sH M i h)) v σ' ↔ v = some (.inl (jb (h 10 11 < 7))) ∧ σ' = (n, ([], sH M i (if h 10 11 < 7 then hTell 5 6 7 11 x y z h else h))) := by
  simp only [s11_0, s11_1, s11_4, s11_6, s11_9, s11_10, s11_11, s11_12, s11_15, s11_16, s11_19, s11_20, s11_23, s11_24, s11_27, s11_28, s11_31, s11_32, s11_35, s11_36, s11_39, s11_40, s11_43, s11_44, s11_47, s11_48, s11_49, s11_52, s11_53, s11_54, s11_57, s11_58, c60, jcall_eq, Option.toList_some, Option.toList_none, List.cons_append, List.nil_append, jl_0, jl_1, jl_2, jl_3, jl_4, jl_5, jl_6, jl_7, jl_8, jl_9, jl_16, jl_17, jl_18, jl_19, jl_20, sH_g0, sH_g1, sH_g2, sH_g3, sH_g4, sH_g5, sH_g6, sH_g7, sH_g8, sH_g9, sH_p0, sH_p1, sH_p2, sH_p3, sH_p4, sH_p5, sH_p6, sH_p7, sH_p8, sH_p9, sH_s10, sH_s11, sH_s12, sH_s13, sH_s14, sH_s15, sH_u10, sH_u11, sH_u12, sH_u13, sH_u14, sH_u15]
  unfold jb
  by_cases h1 : h 10 11 < 7
  · rw [if_pos h1, if_pos h1, if_pos h1]
    exact ⟨fun w => w.2, fun w => ⟨by simp, w⟩⟩
  · rw [if_neg h1, if_neg h1, if_neg h1]
    exact ⟨fun w => w.2, fun w => ⟨by simp, w⟩⟩
end JH4
