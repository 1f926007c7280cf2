/-! small methods of the class and of a house -/
theorem jl_0 (i : Nat) : jLen 12 (0, i) = 7 := rfl
theorem jl_1 (i : Nat) : jLen 12 (1, i) = 7 := rfl
theorem jl_2 (i : Nat) : jLen 12 (2, i) = 7 := rfl
theorem jl_3 (i : Nat) : jLen 12 (3, i) = 7 := rfl
theorem jl_4 (i : Nat) : jLen 12 (4, i) = 7 := rfl
theorem jl_5 (i : Nat) : jLen 12 (5, i) = 7 := rfl
theorem jl_6 (i : Nat) : jLen 12 (6, i) = 7 := rfl
theorem jl_7 (i : Nat) : jLen 12 (7, i) = 7 := rfl
theorem jl_8 (i : Nat) : jLen 12 (8, i) = 7 := rfl
theorem jl_9 (i : Nat) : jLen 12 (9, i) = 7 := rfl
theorem jl_16 (i : Nat) : jLen 12 (16, i) = 7 := rfl
theorem jl_17 (i : Nat) : jLen 12 (17, i) = 7 := rfl
theorem jl_18 (i : Nat) : jLen 12 (18, i) = 7 := rfl
theorem jl_19 (i : Nat) : jLen 12 (19, i) = 7 := rfl
theorem jl_20 (i : Nat) : jLen 12 (20, i) = 7 := rfl
theorem jl_30 (i : Nat) : jLen 12 (30, i) = 200 := rfl
theorem jl_31 (i : Nat) : jLen 12 (31, i) = 6 := rfl
theorem jl_32 (i : Nat) : jLen 12 (32, i) = 6 := rfl
theorem jl_33 (i : Nat) : jLen 12 (33, i) = 7 := rfl
theorem jl_34 (i : Nat) : jLen 12 (34, i) = 7 := rfl
/-- the number that a boolean is -/
def jb (p : Prop) [Decidable p] : Int32 := if p then 1 else 0
theorem jb_01 (p : Prop) [Decidable p] : jb p = 0 ∨ jb p = 1 := by
  unfold jb
  by_cases h : p
  · rw [if_pos h]; exact Or.inr rfl
  · rw [if_neg h]; exact Or.inl rfl
theorem jb_0 (p : Prop) [Decidable p] : jb p = 0 ↔ ¬ p := by
  unfold jb
  by_cases h : p
  · rw [if_pos h]; exact ⟨fun z => absurd z (by decide), fun z => absurd h z⟩
  · rw [if_neg h]; exact ⟨fun _ => h, fun _ => rfl⟩
theorem jUp_at (M : jM) (k : Nat) (a : jA) (s : Nat) (x : Int32) : jUp M k a s x k a s = x := if_pos ⟨rfl, rfl, rfl⟩
theorem jUp_k {M : jM} {k k' : Nat} {a : jA} {s : Nat} {x : Int32} (h : k' ≠ k) : jUp M k a s x k' = M k' := by
  funext b s'
  exact if_neg (fun z => h z.1)
theorem jUp_a {M : jM} {k k' : Nat} {a b : jA} {s : Nat} {x : Int32} (h : b ≠ a) : jUp M k a s x k' b = M k' b := by
  funext s'
  exact if_neg (fun z => h z.2.1)
theorem jUp_s {M : jM} {k k' : Nat} {a b : jA} {s s' : Nat} {x : Int32} (h : s' ≠ s) : jUp M k a s x k' b s' = M k' b s' := if_neg (fun z => h z.2.2)
def bc (x : Int32) : Int32 :=
  let a := x - ((x.toUInt32 >>> ((1 : Int32).toUInt32 &&& Int32.toUInt32 31)).toInt32 &&& 1431655765)
  let b := (a &&& 858993459) + ((a.toUInt32 >>> ((2 : Int32).toUInt32 &&& Int32.toUInt32 31)).toInt32 &&& 858993459)
  let c := (b + (b.toUInt32 >>> ((4 : Int32).toUInt32 &&& Int32.toUInt32 31)).toInt32) &&& 252645135
  let e := c + (c.toUInt32 >>> ((8 : Int32).toUInt32 &&& Int32.toUInt32 31)).toInt32
  let f := e + (e.toUInt32 >>> ((16 : Int32).toUInt32 &&& Int32.toUInt32 31)).toInt32
  f &&& 63
section JHOUSE
variable {d n i : Nat} {v : Option jV} {σ σ' : jS} {M : jM} {x y z w : Int32}
/-- Laws.within -/
theorem c120 : jE d 120 0 [some (.inl x), some (.inl y), some (.inl z)] [] σ v σ' ↔ v = some (.inl (jb (y ≤ x ∧ x ≤ z))) ∧ σ' = σ := by
  simp only [s120_0, s120_1, s120_2, s120_5, s120_6, s120_7, s120_10, s120_11, s120_14, s120_15]
  unfold jb
  by_cases h1 : x < y
  · rw [if_pos h1, if_neg (fun q => absurd q.1 (Int32.not_le.mpr h1))]
    exact ⟨fun q => q.2, fun q => ⟨by simp, q⟩⟩
  · rw [if_neg h1]
    by_cases h2 : z < x
    · rw [if_pos h2, if_neg (fun q => absurd q.2 (Int32.not_le.mpr h2))]
      exact ⟨fun q => q.2, fun q => ⟨by simp, q⟩⟩
    · rw [if_neg h2, if_pos ⟨Int32.not_lt.mp h1, Int32.not_lt.mp h2⟩]
      exact ⟨fun q => q.2, fun q => ⟨by simp, q⟩⟩
/-- Laws.isIn -/
theorem c121 : jE d 121 0 [some (.inl x), some (.inl y)] [] σ v σ' ↔ v = some (.inl (jb (¬ x >>> (y &&& 31) &&& 1 = 0))) ∧ σ' = σ := by
  simp only [s121_0, s121_1, s121_2, s121_3, s121_4, s121_5, s121_8, s121_9, s121_12, s121_13]
  unfold jb
  by_cases h1 : x >>> (y &&& 31) &&& 1 = 0
  · rw [if_pos h1, if_neg (fun q => q h1)]
    exact ⟨fun q => q.2, fun q => ⟨by simp, q⟩⟩
  · rw [if_neg h1, if_pos h1]
    exact ⟨fun q => q.2, fun q => ⟨by simp, q⟩⟩
/-- Integer.bitCount -/
theorem c195 : jE d 195 0 [some (.inl x)] [] σ v σ' ↔ v = some (.inl (bc x)) ∧ σ' = σ := by
  simp only [s195_0, s195_1, s195_2, s195_3, s195_4, s195_7, s195_8, s195_9, s195_10, s195_11, s195_14, s195_15, s195_16, s195_17, s195_18, s195_21, s195_22, s195_23, s195_24, s195_25, s195_26, s195_27, s195_28, s195_29, s195_32, s195_33, s195_34, s195_35, s195_36, s195_38, s195_39, s195_40, s195_41, s195_42, s195_43, s195_45, s195_46, s195_47, s195_48, s195_49, s195_51, s195_52]
  rfl
/-- House.isScene, isSeat -/
theorem c12 : jE (d + 1) 12 0 [some (.inr (.inr (some (1, (0, i))))), some (.inl x)] [] (n, ([], M)) v σ' ↔ v = some (.inl (jb (0 ≤ x ∧ x ≤ M 1 (0, i) 10 - 1))) ∧ σ' = (n, ([], M)) := by
  simp only [s12_0, s12_1, s12_2, s12_3, s12_6, s12_7, s12_8, s12_11, c120, jcall_eq, Option.toList_some, Option.toList_none, List.cons_append, List.nil_append]
  exact ⟨fun q => q.2, fun q => ⟨jb_01 _, q⟩⟩
theorem c13 : jE (d + 1) 13 0 [some (.inr (.inr (some (1, (0, i))))), some (.inl x)] [] (n, ([], M)) v σ' ↔ v = some (.inl (jb (0 ≤ x ∧ x ≤ M 1 (0, i) 11 - 1))) ∧ σ' = (n, ([], M)) := by
  simp only [s13_0, s13_1, s13_2, s13_3, s13_6, s13_7, s13_8, s13_11, c120, jcall_eq, Option.toList_some, Option.toList_none, List.cons_append, List.nil_append]
  exact ⟨fun q => q.2, fun q => ⟨jb_01 _, q⟩⟩
/-- House.placeOnBill, placeInLine, isBilled -/
theorem c14 : jE (d + 2) 14 0 [some (.inr (.inr (some (1, (0, i))))), some (.inl x)] [] (n, ([], M)) v σ' ↔ v = some (.inl (rfind 7 (M 12 (4, i)) x (M 1 (0, i) 12).toNatClampNeg 0)) ∧ σ' = (n, ([], M)) := by
  simp only [s14_0, s14_1, s14_4, s14_5, s14_6, s14_9, s14_12, c61, jcall_eq, Option.toList_some, Option.toList_none, List.cons_append, List.nil_append, jl_0, jl_1, jl_2, jl_3, jl_4, jl_5, jl_6, jl_7, jl_8, jl_9, jl_16, jl_17, jl_18, jl_19, jl_20]
theorem c15 : jE (d + 2) 15 0 [some (.inr (.inr (some (1, (0, i))))), some (.inl x)] [] (n, ([], M)) v σ' ↔ v = some (.inl (rfind 7 (M 12 (9, i)) x (M 1 (0, i) 11).toNatClampNeg 0)) ∧ σ' = (n, ([], M)) := by
  simp only [s15_0, s15_1, s15_4, s15_5, s15_6, s15_9, s15_12, c61, jcall_eq, Option.toList_some, Option.toList_none, List.cons_append, List.nil_append, jl_0, jl_1, jl_2, jl_3, jl_4, jl_5, jl_6, jl_7, jl_8, jl_9, jl_16, jl_17, jl_18, jl_19, jl_20]
theorem c16 : jE (d + 2) 16 0 [some (.inr (.inr (some (1, (0, i))))), some (.inl x)] [] (n, ([], M)) v σ' ↔ v = some (.inl (jb (¬ rfind 7 (M 12 (4, i)) x (M 1 (0, i) 12).toNatClampNeg 0 = -4))) ∧ σ' = (n, ([], M)) := by
  simp only [s16_0, s16_1, s16_4, s16_5, s16_6, s16_9, s16_12, s16_14, s16_17, s16_18, s16_21, s16_22, c61, jcall_eq, Option.toList_some, Option.toList_none, List.cons_append, List.nil_append, jl_0, jl_1, jl_2, jl_3, jl_4, jl_5, jl_6, jl_7, jl_8, jl_9, jl_16, jl_17, jl_18, jl_19, jl_20]
  unfold jb
  by_cases h1 : rfind 7 (M 12 (4, i)) x (M 1 (0, i) 12).toNatClampNeg 0 = -4
  · rw [if_pos h1, if_neg (fun q => q h1)]
    exact ⟨fun q => q.2, fun q => ⟨by simp, q⟩⟩
  · rw [if_neg h1, if_pos h1]
    exact ⟨fun q => q.2, fun q => ⟨by simp, q⟩⟩
/-- House.mount -/
theorem c17 {p l : Nat} (hb : M 1 (0, i) 12 = jn l) (hl : l < 7) (hp : p ≤ l) : jE (d + 2) 17 0 [some (.inr (.inr (some (1, (0, i))))), some (.inl x), some (.inl (jn p))] [] (n, ([], M)) v σ' ↔ v = none ∧ σ' = (n, ([], jUp (mC M (4, i) (rins (M 12 (4, i)) p l x)) 1 (0, i) 12 (jn (l + 1)))) := by
  simp only [s17_0, s17_1, s17_4, s17_5, s17_6, s17_7, s17_10, s17_13, s17_14, s17_15, s17_18, s17_19, s17_20, s17_23, hb, c63 (a := (4, i)) (show l < jLen 12 (4, i) from hl) hp, jcall_eq, Option.toList_some, Option.toList_none, List.cons_append, List.nil_append, mC_k (show (1 : Nat) ≠ 12 by decide), jn_1]
/-- House.strike -/
theorem c18 {p l : Nat} (hb : M 1 (0, i) 12 = jn l) (hl : l ≤ 7) (hp : p < l) (hf : rfind 7 (M 12 (4, i)) x l 0 = jn p) : jE (d + 3) 18 0 [some (.inr (.inr (some (1, (0, i))))), some (.inl x)] [] (n, ([], M)) v σ' ↔ v = none ∧ σ' = (n, ([], jUp (mC M (4, i) (rrem (M 12 (4, i)) p l)) 1 (0, i) 12 (jn l - 1))) := by
  have e : (jn l).toNatClampNeg = l := jn_clamp (by omega)
  simp only [s18_0, s18_1, s18_4, s18_5, s18_6, s18_9, s18_10, s18_13, s18_16, s18_17, s18_18, s18_21, s18_22, s18_23, s18_26, c14, hb, e, hf, c64 (a := (4, i)) (show l ≤ jLen 12 (4, i) from hl) hp, jcall_eq, Option.toList_some, Option.toList_none, List.cons_append, List.nil_append, mC_k (show (1 : Nat) ≠ 12 by decide)]
/-- House.trade -/
theorem c19 : jE (d + 3) 19 0 [some (.inr (.inr (some (1, (0, i))))), some (.inl x), some (.inl y)] [] (n, ([], M)) v σ' ↔ v = none ∧ σ' = (n, ([], mC M (9, i) (rs 7 (rs 7 (M 12 (9, i)) (rfind 7 (M 12 (9, i)) x (M 1 (0, i) 11).toNatClampNeg 0) (rg 7 (M 12 (9, i)) (rfind 7 (M 12 (9, i)) y (M 1 (0, i) 11).toNatClampNeg 0))) (rfind 7 (M 12 (9, i)) y (M 1 (0, i) 11).toNatClampNeg 0) (rg 7 (M 12 (9, i)) (rfind 7 (M 12 (9, i)) x (M 1 (0, i) 11).toNatClampNeg 0))))) := by
  simp only [s19_0, s19_1, s19_4, s19_5, s19_6, s19_9, s19_10, s19_11, s19_14, s19_17, c15, c62, jcall_eq, Option.toList_some, Option.toList_none, List.cons_append, List.nil_append, jl_0, jl_1, jl_2, jl_3, jl_4, jl_5, jl_6, jl_7, jl_8, jl_9, jl_16, jl_17, jl_18, jl_19, jl_20]
/-- House.canEngage, engage -/
theorem c20 : jE (d + 1) 20 0 [some (.inr (.inr (some (1, (0, i))))), some (.inl x)] [] (n, ([], M)) v σ' ↔ v = some (.inl (jb (¬ rg 7 (M 12 (5, i)) x = 3 ∧ 5 ≤ M 1 (0, i) 13))) ∧ σ' = (n, ([], M)) := by
  simp only [s20_0, s20_1, s20_4, s20_5, s20_8, s20_9, s20_12, s20_13, s20_16, s20_17, s20_20, s20_21, s20_24, s20_25, c59, jcall_eq, Option.toList_some, Option.toList_none, List.cons_append, List.nil_append, jl_0, jl_1, jl_2, jl_3, jl_4, jl_5, jl_6, jl_7, jl_8, jl_9, jl_16, jl_17, jl_18, jl_19, jl_20]
  unfold jb
  by_cases h1 : rg 7 (M 12 (5, i)) x = 3
  · rw [if_pos h1, if_neg (fun q => q.1 h1)]
    exact ⟨fun q => q.2, fun q => ⟨by simp, q⟩⟩
  · rw [if_neg h1]
    by_cases h2 : 5 ≤ M 1 (0, i) 13
    · rw [if_neg (Int32.not_lt.mpr h2), if_pos ⟨h1, h2⟩]
      exact ⟨fun q => q.2, fun q => ⟨by simp, q⟩⟩
    · rw [if_pos (Int32.not_le.mp h2), if_neg (fun q => h2 q.2)]
      exact ⟨fun q => q.2, fun q => ⟨by simp, q⟩⟩
theorem c21 : jE (d + 1) 21 0 [some (.inr (.inr (some (1, (0, i))))), some (.inl x)] [] (n, ([], M)) v σ' ↔ v = none ∧ σ' = (n, ([], jUp (mC M (5, i) (rs 7 (M 12 (5, i)) x 3)) 1 (0, i) 13 (M 1 (0, i) 13 - 5))) := by
  simp only [s21_0, s21_1, s21_4, s21_5, s21_6, s21_9, s21_10, s21_11, s21_14, s21_15, s21_16, s21_19, c60, jcall_eq, Option.toList_some, Option.toList_none, List.cons_append, List.nil_append, jl_0, jl_1, jl_2, jl_3, jl_4, jl_5, jl_6, jl_7, jl_8, jl_9, jl_16, jl_17, jl_18, jl_19, jl_20, mC_k (show (1 : Nat) ≠ 12 by decide)]
/-- House.clauseBit -/
def clb (c : Int32) : Int32 := if c = 8 then 0 else 1 <<< (c &&& 31)
theorem c24 : jE (d + 1) 24 0 [some (.inr (.inr (some (1, (0, i))))), some (.inl x), none] [] (n, ([], M)) v σ' ↔ v = some (.inl (clb (rg 7 (M 12 (2, i)) x))) ∧ σ' = (n, ([], M)) := by
  simp only [s24_0, s24_1, s24_4, s24_5, s24_8, s24_9, s24_10, s24_12, s24_15, s24_16, s24_19, s24_20, s24_21, s24_22, c59, jcall_eq, Option.toList_some, Option.toList_none, List.cons_append, List.nil_append, jl_0, jl_1, jl_2, jl_3, jl_4, jl_5, jl_6, jl_7, jl_8, jl_9, jl_16, jl_17, jl_18, jl_19, jl_20]
  unfold clb
  by_cases h1 : rg 7 (M 12 (2, i)) x = 8
  · rw [if_neg (fun q => q h1), if_pos h1]
  · rw [if_pos h1, if_neg h1]
end JHOUSE
