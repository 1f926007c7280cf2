/-! houses laid aside; what was seen -/
abbrev hsB (u : Nat) : Nat := if u = 0 then 2 else 10
abbrev hsL (u : Nat) : Nat := jLen 15 (0, u)
def hsNext (u p : Nat) : Nat := if p + 1 < hsL u then p + 1 else 0
def hsLast (u p : Nat) : Nat := if 0 < p then p - 1 else hsL u - 1
theorem jn_min (a b : Nat) (ha : a < 2147483648) (hb : b < 2147483648) : (if jn b < jn a then jn b else jn a) = jn (min a b) := by
  by_cases h : b < a
  · rw [if_pos ((jn_lt hb ha).mpr h), Nat.min_eq_right (by omega)]
  · rw [if_neg (fun z => h ((jn_lt hb ha).mp z)), Nat.min_eq_left (by omega)]
theorem jn_sub1 (k : Nat) : jn (k + 1) - 1 = jn k := by
  rw [← jn_1]
  exact Int32.add_sub_cancel _ _
section JL
variable {d n i q u p c : Nat} {v : Option jV} {σ' : jS} {M : jM} {x y z : Int32}
/-- Houses.push -/
theorem c31 (ht : M 2 (0, u) 1 = jn p) (hh : M 2 (0, u) 2 = jn c) (hp : p < hsL u) (hL : hsL u ≤ 8) (hc : c ≤ 8) : jE (d + 2) 31 0 [some (.inr (.inr (some (2, (0, u))))), some (.inr (.inr (some (1, (0, 1))))), none] [] (n, ([], M)) v σ' ↔ v = none ∧ σ' = (n, ([], jUp (jUp (sH M (hsB u + p) (gH M 1)) 2 (0, u) 1 (jn (hsNext u p))) 2 (0, u) 2 (jn (min (hsL u) (c + 1))))) := by
  have hx : jLen 15 (0, u) = hsL u := rfl
  have hne : (1 : Nat) ≠ hsB u + p := by
    unfold hsB
    by_cases e : u = 0
    · rw [if_pos e]; omega
    · rw [if_neg e]; omega
  have e1 : (jn p < 0) = False := eq_false (jn_npos (by omega))
  have e2 : (Int32.ofNat (jLen 15 (0, u)) ≤ jn p) = False := eq_false (fun z => absurd ((jn_le (by omega) (by omega)).mp z) (by omega))
  have e3 : (0 ≤ jn p ∧ p < jLen 15 (0, u)) = True := eq_true ⟨jn_pos (by omega), hp⟩
  have e4 : (jn p).toNatClampNeg = p := jn_clamp (by omega)
  have e5 : jUp (sH M (hsB u + p) (gH M 1)) 2 (0, u) 1 (jn (hsNext u p)) 2 (0, u) 2 = jn c := by
    rw [jUp_s (by decide), sH_k (by decide) (by decide), hh]
  have e6 : (Int32.ofNat (jLen 15 (0, u)) ≤ jn (p + 1)) = ¬ (p + 1 < hsL u) := propext ⟨fun z => by have := (jn_le (by omega) (by omega)).mp z; omega, fun z => (jn_le (by omega) (by omega)).mpr (by omega)⟩
  simp only [s31_0, s31_1, s31_4, s31_7, s31_8, s31_11, s31_12, s31_15, s31_16, s31_19, s31_20, s31_23, s31_24, s31_27, s31_28, s31_31, s31_32, s31_33, s31_34, s31_37, s31_38, s31_39, s31_40, s31_43, s31_44, s31_45, s31_48, s31_49, s31_50, s31_51, s31_54, s31_55, s31_58, s31_59, s31_62, s31_63, s31_64, s31_67, s31_68, s31_71, s31_72, s31_73, s31_76, s31_77, s31_78, s31_81, s31_82, s31_83, s31_86, s31_89, c9 hne, jcall_eq, Option.toList_some, Option.toList_none, List.cons_append, List.nil_append, ht, e1, e2, e3, e4, if_false, true_and, reduceCtorEq, sH_k (show (2 : Nat) ≠ 12 by decide) (show (2 : Nat) ≠ 1 by decide), jn_1, e6]
  have key : ∀ N : jM, N 2 (0, u) 2 = jn c → (jE (d + 2) 31 71 [some (.inr (.inr (some (2, (0, u))))), some (.inr (.inr (some (1, (0, 1))))), some (.inr (.inr (some (1, (0, hsB u + p)))))] [] (n, ([], N)) v σ' ↔ v = none ∧ σ' = (n, ([], jUp N 2 (0, u) 2 (jn (min (hsL u) (c + 1)))))) := by
    intro N hN
    simp only [s31_71, s31_72, s31_73, s31_76, s31_77, s31_78, s31_81, s31_82, s31_83, s31_86, s31_89, hN, jn_1]
    rw [← jn_min (hsL u) (c + 1) (by omega) (by omega)]
  by_cases h1 : p + 1 < hsL u
  · rw [if_neg (fun z => z h1)]
    have e7 : hsNext u p = p + 1 := if_pos h1
    rw [e7] at e5 ⊢
    first | done | (rw [← key _ e5]; simp only [s31_71, s31_72, s31_73, s31_76, s31_77, s31_78, s31_81, s31_82, s31_83, s31_86, s31_89])
  · rw [if_pos h1]
    have e7 : jn (hsNext u p) = 0 := by rw [show hsNext u p = 0 from if_neg h1]; rfl
    rw [e7] at e5 ⊢
    first | done | (rw [← key _ e5]; simp only [s31_71, s31_72, s31_73, s31_76, s31_77, s31_78, s31_81, s31_82, s31_83, s31_86, s31_89])
/-- Houses.pop -/
theorem c32 (ht : M 2 (0, u) 1 = jn p) (hh : M 2 (0, u) 2 = jn (c + 1)) (hp : p < hsL u) (hL : hsL u ≤ 8) (hc : c ≤ 8) : jE (d + 2) 32 0 [some (.inr (.inr (some (2, (0, u))))), some (.inr (.inr (some (1, (0, 1))))), none, none] [] (n, ([], M)) v σ' ↔ v = none ∧ σ' = (n, ([], jUp (jUp (sH M 1 (gH M (hsB u + hsLast u p))) 2 (0, u) 1 (jn (hsLast u p))) 2 (0, u) 2 (jn c))) := by
  have hx : jLen 15 (0, u) = hsL u := rfl
  have key : ∀ l : Nat, l < hsL u → (jE (d + 2) 32 23 [some (.inr (.inr (some (2, (0, u))))), some (.inr (.inr (some (1, (0, 1))))), none, none] [.inl (jn l)] (n, ([], M)) v σ' ↔ v = none ∧ σ' = (n, ([], jUp (jUp (sH M 1 (gH M (hsB u + l))) 2 (0, u) 1 (jn l)) 2 (0, u) 2 (jn c)))) := by
    intro l hl
    have hne : hsB u + l ≠ 1 := by
      unfold hsB
      by_cases e : u = 0
      · rw [if_pos e]; omega
      · rw [if_neg e]; omega
    have e1 : (jn l < 0) = False := eq_false (jn_npos (by omega))
    have e2 : (Int32.ofNat (jLen 15 (0, u)) ≤ jn l) = False := eq_false (fun z => absurd ((jn_le (by omega) (by omega)).mp z) (by omega))
    have e3 : (0 ≤ jn l ∧ l < jLen 15 (0, u)) = True := eq_true ⟨jn_pos (by omega), hl⟩
    have e4 : (jn l).toNatClampNeg = l := jn_clamp (by omega)
    have e5 : (jn (c + 1) = 0) = False := eq_false (fun z => absurd ((jn_eq (k := c + 1) (l := 0) (by omega) (by omega)).mp z) (by omega))
    have e6 : jUp (sH M 1 (gH M (hsB u + l))) 2 (0, u) 1 (jn l) 2 (0, u) 2 = jn (c + 1) := by
      rw [jUp_s (by decide), sH_k (by decide) (by decide), hh]
    simp only [s32_0, s32_1, s32_4, s32_7, s32_8, s32_11, s32_12, s32_13, s32_16, s32_17, s32_20, s32_21, s32_22, s32_23, s32_24, s32_25, s32_28, s32_29, s32_30, s32_33, s32_34, s32_37, s32_38, s32_41, s32_42, s32_43, s32_46, s32_47, s32_48, s32_49, s32_52, s32_53, s32_56, s32_59, s32_60, s32_61, s32_62, s32_65, s32_66, s32_67, s32_70, s32_71, s32_72, s32_75, s32_76, s32_77, s32_80, c9 hne, jcall_eq, Option.toList_some, Option.toList_none, List.cons_append, List.nil_append, hh, e1, e2, e3, e4, e5, e6, if_false, if_true, not_false_eq_true, true_and, reduceCtorEq, jn_sub1]
  have e1 : (jn p ≤ 0) = ¬ (0 < p) := propext ⟨fun z => by have := (jn_le (k := p) (l := 0) (by omega) (by omega)).mp z; omega, fun z => (jn_le (k := p) (l := 0) (by omega) (by omega)).mpr (by omega)⟩
  simp only [s32_0, s32_1, s32_4, s32_7, s32_8, s32_11, s32_12, s32_13, s32_16, s32_17, s32_20, s32_21, s32_22, ht, e1]
  unfold hsLast
  by_cases h1 : 0 < p
  · rw [if_neg (fun z => z h1), if_pos h1, show jn p - 1 = jn (p - 1) by conv => lhs; rw [show p = p - 1 + 1 by omega, jn_sub1]]
    exact key (p - 1) (by omega)
  · rw [if_pos h1, if_neg h1, show (Int32.ofNat (jLen 15 (0, u)) - 1 : Int32) = jn (hsL u - 1) by conv => lhs; rw [show jLen 15 (0, u) = hsL u - 1 + 1 by omega, jn_sub1]]
    exact key (hsL u - 1) (by omega)
def sgNote (M : jM) (x y : Int32) : jM := jUp (mC (mC M (31, 0) (rs 6 (M 12 (31, 0)) (M 8 (0, 0) 2) x)) (32, 0) (rs 6 (M 12 (32, 0)) (M 8 (0, 0) 2) y)) 8 (0, 0) 2 (M 8 (0, 0) 2 + 1)
/-- Sights.note -/
theorem c76 : jE (d + 1) 76 0 [some (.inr (.inr (some (8, (0, 0))))), some (.inl x), some (.inl y)] [] (n, ([], M)) v σ' ↔ v = some (.inl (jb (M 8 (0, 0) 2 < 6))) ∧ σ' = (n, ([], if M 8 (0, 0) 2 < 6 then sgNote M x y else M)) := by
  simp only [s76_0, s76_1, s76_4, s76_6, s76_9, s76_10, s76_11, s76_12, s76_15, s76_16, s76_19, s76_20, s76_23, s76_24, s76_27, s76_28, s76_31, s76_32, s76_35, s76_36, s76_37, s76_40, s76_41, s76_42, s76_45, s76_46, c60, jcall_eq, Option.toList_some, Option.toList_none, List.cons_append, List.nil_append, jl_31, jl_32, mC_k (show (8 : Nat) ≠ 12 by decide), mC_ne (show ((32, 0) : jA) ≠ (31, 0) by decide)]
  unfold jb sgNote
  by_cases h1 : M 8 (0, 0) 2 < 6
  · rw [if_pos h1, if_pos h1, if_pos h1]
    exact ⟨fun w => w.2, fun w => ⟨by simp, w⟩⟩
  · rw [if_neg h1, if_neg h1, if_neg h1]
    exact ⟨fun w => w.2, fun w => ⟨by simp, w⟩⟩
def sgAgree (c1 c2 : Nat → Int32) (x y : Int32) : Nat → Nat → Bool
  | 0, _ => true
  | f + 1, k => if rg 6 c1 (jn k) = x ∧ ¬ rg 6 c2 (jn k) = y then false else sgAgree c1 c2 x y f (k + 1)
theorem c77_loop : ∀ (f k : Nat), k + f = (M 8 (0, 0) 2).toNatClampNeg ∨ (f = 0 ∧ (M 8 (0, 0) 2).toNatClampNeg ≤ k ∧ k < 2147483648) → (jE (d + 1) 77 2 [some (.inr (.inr (some (8, (0, 0))))), some (.inl x), some (.inl y), some (.inl (jn k))] [] (n, ([], M)) v σ' ↔ v = some (.inl (jb (sgAgree (M 12 (31, 0)) (M 12 (32, 0)) x y f k = true))) ∧ σ' = (n, ([], M))) := by
  intro f
  have hy := jx_lt (M 8 (0, 0) 2)
  induction f with
  | zero =>
    intro k hk
    rw [s77_2, s77_3, s77_4, s77_7, if_pos ((jn_ge (by omega)).mpr (by omega)), s77_42, s77_43]
    exact ⟨fun w => w.2, fun w => ⟨by simp, w⟩⟩
  | succ f ih =>
    intro k hk
    rw [s77_2, s77_3, s77_4, s77_7, if_neg (fun z => absurd ((jn_ge (by omega)).mp z) (by omega))]
    simp only [s77_10, s77_11, s77_14, s77_15, s77_18, s77_19, s77_22, s77_23, s77_26, s77_27, s77_30, s77_31, s77_34, s77_35, s77_36, c59, jcall_eq, Option.toList_some, Option.toList_none, List.cons_append, List.nil_append, jl_31, jl_32]
    rw [s77_39, jn_1, ih (k + 1) (by omega)]
    rw [sgAgree]
    by_cases h1 : rg 6 (M 12 (31, 0)) (jn k) = x
    · rw [if_neg (fun z => z h1)]
      by_cases h2 : rg 6 (M 12 (32, 0)) (jn k) = y
      · rw [if_pos h2, if_neg (fun z => z.2 h2)]
      · rw [if_neg h2, if_pos ⟨h1, h2⟩]
        exact ⟨fun w => w.2, fun w => ⟨by simp, w⟩⟩
    · rw [if_pos h1, if_neg (fun z => h1 z.1)]
abbrev sgOk (M : jM) (x y : Int32) : Prop := sgAgree (M 12 (31, 0)) (M 12 (32, 0)) x y (M 8 (0, 0) 2).toNatClampNeg 0 = true
/-- Sights.agree -/
theorem c77 : jE (d + 1) 77 0 [some (.inr (.inr (some (8, (0, 0))))), some (.inl x), some (.inl y), none] [] (n, ([], M)) v σ' ↔ v = some (.inl (jb (sgOk M x y))) ∧ σ' = (n, ([], M)) := by
  rw [s77_0, s77_1, show (0 : Int32) = jn 0 from rfl]
  exact c77_loop _ 0 (by omega)
end JL
