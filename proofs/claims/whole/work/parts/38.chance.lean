/-! coughs and draws: trial house 15, night 11 -/
abbrev cCan (H : Nat → Nat → Int32) (s : Int32) : Prop := ¬ rg 7 (H 5) s = 1 ∧ ¬ rg 7 (H 5) s = 3
def wRun (H : Nat → Nat → Int32) (set x : Int32) : Nat → Nat → Int32 → Int32
  | 0, _, w => w
  | f + 1, k, w => if cCan H (jn k) then wRun H set x f (k + 1) (w * if set >>> (jn k &&& 31) &&& 1 = 0 then 10 - x else x) else if set >>> (jn k &&& 31) &&& 1 = 0 then wRun H set x f (k + 1) w else 0
def cWeight (H : Nat → Nat → Int32) (set x : Int32) : Int32 := wRun H set x (hS H) 0 1
def gcdRun : Nat → Int32 → Int32 → Int32
  | 0, a, _ => a
  | f + 1, a, b => if b = 0 then a else gcdRun f b (a % b)
def cBelow (H : Nat → Nat → Int32) : Int32 := jfor (fun k b => if cCan H (jn k) then b * 10 else b) (hS H) 0 1
def cgStep (H : Nat → Nat → Int32) (x : Int32) (k : Nat) (a : Int32) : Int32 := if cWeight H (jn k) x = 0 then a else if nCarry H (nUnfold H (jn k)) then a + cWeight H (jn k) x else a
def cAbove (H : Nat → Nat → Int32) (x : Int32) : Int32 := jfor (cgStep H x) (hSets H) 0 0
def cGcd (H : Nat → Nat → Int32) (x : Int32) : Int32 := gcdRun 100 (cAbove H x) (cBelow H)
def mA (M : jM) (a b : Int32) : jM := fun k x s => if k = 0 ∧ x = (0, 0) ∧ s = 2 then a else if k = 0 ∧ x = (0, 0) ∧ s = 3 then b else M k x s
theorem mA_self (M : jM) : mA M (M 0 (0, 0) 2) (M 0 (0, 0) 3) = M := by
  funext k x s
  unfold mA
  by_cases h1 : k = 0 ∧ x = (0, 0) ∧ s = 2
  · rw [if_pos h1, h1.1, h1.2.1, h1.2.2]
  · rw [if_neg h1]
    by_cases h2 : k = 0 ∧ x = (0, 0) ∧ s = 3
    · rw [if_pos h2, h2.1, h2.2.1, h2.2.2]
    · rw [if_neg h2]
theorem mA_a (M : jM) (a b x : Int32) : jUp (mA M a b) 0 (0, 0) 2 x = mA M x b := by
  funext k y s
  unfold jUp mA
  by_cases h1 : k = 0 ∧ y = (0, 0) ∧ s = 2
  · rw [if_pos h1, if_pos h1]
  · rw [if_neg h1, if_neg h1, if_neg h1]
theorem mA_b (M : jM) (a b x : Int32) : jUp (mA M a b) 0 (0, 0) 3 x = mA M a x := by
  funext k y s
  unfold jUp mA
  by_cases h1 : k = 0 ∧ y = (0, 0) ∧ s = 3
  · rw [if_pos h1, if_neg (by omega), if_pos h1]
  · rw [if_neg h1]
    by_cases h2 : k = 0 ∧ y = (0, 0) ∧ s = 2
    · rw [if_pos h2, if_pos h2]
    · rw [if_neg h2, if_neg h2, if_neg h1, if_neg h1]
theorem mA_2 (M : jM) (a b : Int32) : mA M a b 0 (0, 0) 2 = a := if_pos ⟨rfl, rfl, rfl⟩
theorem mA_3 (M : jM) (a b : Int32) : mA M a b 0 (0, 0) 3 = b := by
  unfold mA
  rw [if_neg (by decide), if_pos ⟨rfl, rfl, rfl⟩]
theorem mA_k {M : jM} {a b : Int32} {k : Nat} (h : k ≠ 0) : mA M a b k = M k := by
  funext y s
  unfold mA
  rw [if_neg (fun z => h z.1), if_neg (fun z => h z.1)]
theorem gH_mA (M : jM) (a b : Int32) (i : Nat) : gH (mA M a b) i = gH M i := by
  unfold gH
  rw [mA_k (by decide), mA_k (by decide)]
theorem sN_A (M : jM) (q : Nat) (nv : Nat → Nat → Int32) : sN M q nv 0 = M 0 := sN_k _ _ _ (by decide) (by decide)
section JC
variable {d n i q : Nat} {v : Option jV} {σ' : jS} {M : jM} {x y z : Int32} {h nv : Nat → Nat → Int32}
/-- Chances.canCough -/
theorem c3 : jE (d + 1) 3 0 [some (.inr (.inr (some (1, (0, 1))))), some (.inl x), none] [] (n, ([], M)) v σ' ↔ v = some (.inl (jb (cCan (gH M 1) x))) ∧ σ' = (n, ([], M)) := by
  simp only [s3_0, s3_1, s3_4, s3_5, s3_8, s3_9, s3_10, s3_11, s3_14, s3_15, s3_16, s3_19, s3_20, s3_23, s3_24, c59, jcall_eq, Option.toList_some, Option.toList_none, List.cons_append, List.nil_append, jl_0, jl_1, jl_2, jl_3, jl_4, jl_5, jl_6, jl_7, jl_8, jl_9, jl_16, jl_17, jl_18, jl_19, jl_20]
  unfold jb cCan
  show _ ↔ v = some (.inl (if ¬ rg 7 (M 12 (5, 1)) x = 1 ∧ ¬ rg 7 (M 12 (5, 1)) x = 3 then 1 else 0)) ∧ _
  by_cases h1 : rg 7 (M 12 (5, 1)) x = 1
  · rw [if_pos h1, if_neg (fun w => w.1 h1)]
    exact ⟨fun w => w.2, fun w => ⟨by simp, w⟩⟩
  · rw [if_neg h1]
    by_cases h2 : rg 7 (M 12 (5, 1)) x = 3
    · rw [if_pos h2, if_neg (fun w => w.2 h2)]
      exact ⟨fun w => w.2, fun w => ⟨by simp, w⟩⟩
    · rw [if_neg h2, if_pos ⟨h1, h2⟩]
      exact ⟨fun w => w.2, fun w => ⟨by simp, w⟩⟩
theorem c2_loop : ∀ (f k : Nat) (w : Int32) (a5 : Option jV), k + f = hS (gH M 1) ∨ (f = 0 ∧ hS (gH M 1) ≤ k ∧ k < 2147483648) → (jE (d + 2) 2 5 [some (.inr (.inr (some (1, (0, 1))))), some (.inl x), some (.inl y), some (.inl w), some (.inl (jn k)), a5] [] (n, ([], M)) v σ' ↔ v = some (.inl (wRun (gH M 1) x y f k w)) ∧ σ' = (n, ([], M))) := by
  intro f
  have hy := jx_lt (M 1 (0, 1) 11)
  have he : hS (gH M 1) = (M 1 (0, 1) 11).toNatClampNeg := rfl
  induction f with
  | zero =>
    intro k w a5 hk
    rw [s2_5, s2_7, s2_8, s2_11, if_pos (show M 1 (0, 1) 11 ≤ jn k from (jn_ge (by omega)).mpr (by omega)), s2_63, s2_64]
    rfl
  | succ f ih =>
    intro k w a5 hk
    rw [s2_5, s2_7, s2_8, s2_11, if_neg (show ¬ M 1 (0, 1) 11 ≤ jn k from fun z => absurd ((jn_ge (by omega)).mp z) (by omega)), wRun]
    simp only [s2_14, s2_15, s2_17, s2_20, s2_22, s2_23, s2_25, s2_28, s2_31, s2_32, s2_34, s2_37, s2_38, s2_41, s2_43, s2_44, s2_45, s2_46, s2_47, s2_50, s2_52, s2_55, s2_56, s2_57, c3, c121, jcall_eq, Option.toList_some, Option.toList_none, List.cons_append, List.nil_append, jb_0, Classical.not_not]
    by_cases h1 : cCan (gH M 1) (jn k)
    · rw [if_neg (fun z => z h1), if_pos h1]
      by_cases h2 : x >>> (jn k &&& 31) &&& 1 = 0
      · rw [if_pos h2, if_pos h2, s2_60, jn_1]
        exact ih (k + 1) _ _ (by omega)
      · rw [if_neg h2, if_neg h2, s2_60, jn_1]
        exact ih (k + 1) _ _ (by omega)
    · rw [if_pos h1, if_neg h1]
      by_cases h2 : x >>> (jn k &&& 31) &&& 1 = 0
      · rw [if_pos h2, if_pos h2, s2_60, jn_1]
        exact ih (k + 1) _ _ (by omega)
      · rw [if_neg h2, if_neg h2]
/-- Chances.weightOf -/
theorem c2 : jE (d + 2) 2 0 [some (.inr (.inr (some (1, (0, 1))))), some (.inl x), some (.inl y), none, none, none] [] (n, ([], M)) v σ' ↔ v = some (.inl (cWeight (gH M 1) x y)) ∧ σ' = (n, ([], M)) := by
  rw [s2_0, s2_1, s2_2, s2_3]
  exact c2_loop (hS (gH M 1)) 0 1 none (by omega)
theorem c4_loop : ∀ (f k : Nat) (a b : Int32) (a5 : Option jV), k + f = 100 → (jE d 4 7 [some (.inl x), some (.inl y), some (.inl a), some (.inl b), some (.inl (jn k)), a5] [] (n, ([], M)) v σ' ↔ v = some (.inl (gcdRun f a b)) ∧ σ' = (n, ([], M))) := by
  intro f
  induction f with
  | zero =>
    intro k a b a5 hk
    rw [s4_7, s4_9, s4_11, if_pos (show (100 : Int32) ≤ jn k from (jn_le (k := 100) (by omega) (by omega)).mpr (by omega)), s4_34, s4_35]
    rfl
  | succ f ih =>
    intro k a b a5 hk
    rw [s4_7, s4_9, s4_11, if_neg (show ¬ (100 : Int32) ≤ jn k from fun z => absurd ((jn_le (k := 100) (by omega) (by omega)).mp z) (by omega)), s4_14, s4_15, gcdRun]
    by_cases h1 : b = 0
    · rw [if_pos h1, if_pos h1, s4_34, s4_35]
    · rw [if_neg h1, if_neg h1]
      simp only [s4_18, s4_19, s4_20, s4_21, s4_23, s4_24, s4_25, s4_27, s4_28]
      rw [s4_31, jn_1, ih (k + 1) b (a % b) _ (by omega)]
      exact ⟨fun w => w.2, fun w => ⟨h1, w⟩⟩
/-- Chances.commonDivisor -/
theorem c4 : jE d 4 0 [some (.inl x), some (.inl y), none, none, none, none] [] (n, ([], M)) v σ' ↔ v = some (.inl (gcdRun 100 x y)) ∧ σ' = (n, ([], M)) := by
  simp only [s4_0, s4_1, s4_2, s4_3, s4_4, s4_5]
  exact c4_loop 100 0 x y none (by omega)
theorem c1_below : ∀ (f k : Nat) (a b : Int32) (a4 : Option jV), k + f = hS (gH M 1) ∨ (f = 0 ∧ hS (gH M 1) ≤ k ∧ k < 2147483648) → (jE (d + 4) 1 12 [some (.inr (.inr (some (0, (0, 0))))), some (.inr (.inr (some (1, (0, 1))))), some (.inl x), some (.inl (jn k)), a4] [] (n, ([], mA M a b)) v σ' ↔ jE (d + 4) 1 47 [some (.inr (.inr (some (0, (0, 0))))), some (.inr (.inr (some (1, (0, 1))))), some (.inl x), some (.inl 0), a4] [] (n, ([], mA M a (jfor (fun k b => if cCan (gH M 1) (jn k) then b * 10 else b) f k b))) v σ') := by
  intro f
  have hy := jx_lt (M 1 (0, 1) 11)
  have he : hS (gH M 1) = (M 1 (0, 1) 11).toNatClampNeg := rfl
  induction f with
  | zero =>
    intro k a b a4 hk
    rw [s1_12, s1_13, s1_14, s1_17, mA_k (by decide), if_pos (show M 1 (0, 1) 11 ≤ jn k from (jn_ge (by omega)).mpr (by omega)), s1_45, s1_46]
    rfl
  | succ f ih =>
    intro k a b a4 hk
    rw [s1_12, s1_13, s1_14, s1_17, mA_k (by decide), if_neg (show ¬ M 1 (0, 1) 11 ≤ jn k from fun z => absurd ((jn_ge (by omega)).mp z) (by omega))]
    simp only [s1_20, s1_21, s1_22, s1_25, s1_28, s1_29, s1_30, s1_33, s1_35, s1_36, s1_39, c3, jcall_eq, Option.toList_some, Option.toList_none, List.cons_append, List.nil_append, gH_mA, jb_0, mA_3, mA_b, jfor]
    rw [s1_42, s1_42, jn_1]
    by_cases h1 : cCan (gH M 1) (jn k)
    · simp only [if_pos h1]
      rw [if_neg (fun z => z h1)]
      exact ih (k + 1) a (b * 10) a4 (by omega)
    · simp only [if_neg h1]
      rw [if_pos h1]
      exact ih (k + 1) a b a4 (by omega)
theorem c1_above : ∀ (f k : Nat) (a b : Int32) (nv : Nat → Nat → Int32) (a4 : Option jV), k + f = hSets (gH M 1) ∨ (f = 0 ∧ hSets (gH M 1) ≤ k ∧ k < 2147483648) → ∃ a3 a4' nv', ∀ (v : Option jV) (σ' : jS), jE (d + 4) 1 47 [some (.inr (.inr (some (0, (0, 0))))), some (.inr (.inr (some (1, (0, 1))))), some (.inl x), some (.inl (jn k)), a4] [] (n, ([], sN (mA M a b) 11 nv)) v σ' ↔ jE (d + 4) 1 110 [some (.inr (.inr (some (0, (0, 0))))), some (.inr (.inr (some (1, (0, 1))))), some (.inl x), a3, a4'] [] (n, ([], sN (mA M (jfor (cgStep (gH M 1) x) f k a) b) 11 nv')) v σ' := by
  intro f
  have hy := jx_lt (1 <<< (M 1 (0, 1) 11 &&& 31) : Int32)
  have he : hSets (gH M 1) = (1 <<< (M 1 (0, 1) 11 &&& 31) : Int32).toNatClampNeg := rfl
  have e1 : ∀ (a b : Int32) (nv : Nat → Nat → Int32), sN (mA M a b) 11 nv 1 = M 1 := fun a b nv => by rw [sN_1, mA_k (by decide)]
  induction f with
  | zero =>
    intro k a b nv a4 hk
    refine ⟨some (.inl (jn k)), a4, nv, fun v σ' => ?_⟩
    rw [s1_47, s1_48, s1_49, s1_50, s1_53, s1_54, e1, if_pos (show (1 <<< (M 1 (0, 1) 11 &&& 31) : Int32) ≤ jn k from (jn_ge (by omega)).mpr (by omega))]
    rfl
  | succ f ih =>
    intro k a b nv a4 hk
    have hd : ∀ (v : Option jV) (σ' : jS), jE (d + 4) 1 47 [some (.inr (.inr (some (0, (0, 0))))), some (.inr (.inr (some (1, (0, 1))))), some (.inl x), some (.inl (jn k)), a4] [] (n, ([], sN (mA M a b) 11 nv)) v σ' ↔ jE (d + 4) 1 47 [some (.inr (.inr (some (0, (0, 0))))), some (.inr (.inr (some (1, (0, 1))))), some (.inl x), some (.inl (jn (k + 1))), some (.inl (cWeight (gH M 1) (jn k) x))] [] (n, ([], sN (mA M (cgStep (gH M 1) x k a) b) 11 (if cWeight (gH M 1) (jn k) x = 0 then nv else nUnfold (gH M 1) (jn k)))) v σ' := by
      intro v σ'
      rw [s1_47, s1_48, s1_49, s1_50, s1_53, s1_54, e1, if_neg (show ¬ (1 <<< (M 1 (0, 1) 11 &&& 31) : Int32) ≤ jn k from fun z => absurd ((jn_ge (by omega)).mp z) (by omega))]
      simp only [s1_57, s1_58, s1_59, s1_60, s1_63, s1_65, s1_67, s1_70, s1_73, s1_74, s1_77, s1_78, s1_79, s1_82, s1_83, s1_86, s1_87, s1_90, s1_93, s1_94, s1_95, s1_98, s1_100, s1_101, s1_104, c2, c41, c43, jcall_eq, Option.toList_some, Option.toList_none, List.cons_append, List.nil_append, gH_sN, gH_mA, sN_sN, nCarry_N, sN_A, mA_2, up_sN (show (0 : Nat) ≠ 12 by decide) (show (0 : Nat) ≠ 4 by decide), mA_a, jb_0]
      rw [s1_107, s1_107, s1_107, jn_1]
      unfold cgStep
      by_cases h1 : cWeight (gH M 1) (jn k) x = 0
      · simp only [h1, if_true]
        rw [if_neg (by decide)]
      · simp only [if_neg h1]
        rw [if_pos h1]
        by_cases h2 : nCarry (gH M 1) (nUnfold (gH M 1) (jn k))
        · simp only [if_pos h2]
          rw [if_neg (fun z => z h2)]
        · simp only [if_neg h2]
          rw [if_pos h2]
    obtain ⟨a3, a4', nv', e⟩ := ih (k + 1) (cgStep (gH M 1) x k a) b (if cWeight (gH M 1) (jn k) x = 0 then nv else nUnfold (gH M 1) (jn k)) (some (.inl (cWeight (gH M 1) (jn k) x))) (by omega)
    exact ⟨a3, a4', nv', fun v σ' => (hd v σ').trans (e v σ')⟩
def cgRes (H : Nat → Nat → Int32) (x : Int32) : Int32 × Int32 := if cGcd H x < 1 then (cAbove H x, cBelow H) else (cAbove H x / cGcd H x, cBelow H / cGcd H x)
/-- Chances.weigh -/
theorem c1 : ∃ nv', jE (d + 4) 1 0 [some (.inr (.inr (some (0, (0, 0))))), some (.inr (.inr (some (1, (0, 1))))), some (.inl x), none, none] [] (n, ([], M)) none (n, ([], sN (mA M (cgRes (gH M 1) x).1 (cgRes (gH M 1) x).2) 11 nv')) := by
  obtain ⟨a3, a4', nv', e⟩ := c1_above (d := d) (n := n) (M := M) (x := x) (hSets (gH M 1)) 0 0 (cBelow (gH M 1)) (gN (mA M 0 (cBelow (gH M 1))) 11) none (by omega)
  refine ⟨nv', ?_⟩
  have e1 : jUp (jUp M 0 (0, 0) 2 0) 0 (0, 0) 3 1 = mA M 0 1 := by
    conv => lhs; rw [← mA_self M]
    rw [mA_a, mA_b]
  rw [sN_self] at e
  simp only [s1_0, s1_1, s1_2, s1_5, s1_6, s1_7, s1_10, s1_11, e1]
  refine (c1_below (d := d) (n := n) (M := M) (x := x) (hS (gH M 1)) 0 0 1 none (by omega)).mpr ?_
  refine (e _ _).mpr ?_
  simp only [s1_110, s1_111, s1_114, s1_115, s1_118, s1_121, s1_122, s1_123, s1_124, s1_127, s1_128, s1_129, s1_130, s1_133, s1_134, s1_135, s1_138, s1_139, s1_140, s1_143, s1_144, s1_145, s1_148, c4, jcall_eq, Option.toList_some, Option.toList_none, List.cons_append, List.nil_append, sN_A, mA_2, mA_3, up_sN (show (0 : Nat) ≠ 12 by decide) (show (0 : Nat) ≠ 4 by decide), mA_a, mA_b]
  rw [show gcdRun 100 (jfor (cgStep (gH M 1) x) (hSets (gH M 1)) 0 0) (cBelow (gH M 1)) = cGcd (gH M 1) x from rfl, show jfor (cgStep (gH M 1) x) (hSets (gH M 1)) 0 0 = cAbove (gH M 1) x from rfl]
  unfold cgRes
  by_cases h1 : cGcd (gH M 1) x < 1
  · rw [if_neg (Int32.not_le.mpr h1), if_pos h1]
    exact ⟨trivial, rfl⟩
  · rw [if_pos (Int32.not_lt.mp h1), if_neg h1]
    have h0 : ¬ cGcd (gH M 1) x = 0 := fun z => h1 (by rw [z]; decide)
    exact ⟨h0, h0, trivial, rfl⟩
end JC
