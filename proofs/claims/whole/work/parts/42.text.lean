/-! the letters, and the house that they tell (house 0) -/
def tx (T : Nat → Int32) (L i : Nat) : Int32 := if i < L then rg 200 T (jn i) else -4
def fig (x : Int32) : Int32 := if 48 ≤ x ∧ x ≤ 57 then x - 48 else -1
def nmr (t : Nat → Int32) (s : Nat) (e lo hi : Int32) : Int32 × Nat :=
  if fig (t s) < 0 then (-1, s + 1)
  else if fig (t (s + 1)) < 0 then (if t (s + 1) = e ∧ lo ≤ fig (t s) ∧ fig (t s) ≤ hi then fig (t s) else -1, s + 2)
  else (if t (s + 2) = e ∧ lo ≤ fig (t s) * 10 + fig (t (s + 1)) ∧ fig (t s) * 10 + fig (t (s + 1)) ≤ hi then fig (t s) * 10 + fig (t (s + 1)) else -1, s + 3)
def tX (M : jM) (h : Nat → Nat → Int32) (s : Nat) : jM := sH (jUp M 9 (0, 0) 3 (jn s)) 0 h
section JT
variable {d n i q L s : Nat} {v : Option jV} {σ' : jS} {M : jM} {x y z : Int32} {h : Nat → Nat → Int32}
theorem tX_2 : tX M h s 9 (0, 0) 2 = M 9 (0, 0) 2 := by
  unfold tX
  rw [sH_k (by decide) (by decide), jUp_s (by decide)]
theorem tX_3 : tX M h s 9 (0, 0) 3 = jn s := by
  unfold tX
  rw [sH_k (by decide) (by decide), jUp_at]
theorem tX_30 : tX M h s 12 (30, 0) = M 12 (30, 0) := by
  unfold tX
  rw [sH_N (by decide), jUp_k (by decide)]
theorem tX_put (s' : Nat) : jUp (tX M h s) 9 (0, 0) 3 (jn s') = tX M h s' := by
  unfold tX
  rw [up_sH (by decide) (by decide)]
  congr 1
  funext k a j
  unfold jUp
  by_cases h : k = 9 ∧ a = (0, 0) ∧ j = 3
  · rw [if_pos h, if_pos h]
  · rw [if_neg h, if_neg h, if_neg h]
/-- Text.figure -/
theorem c88 {σ : jS} : jE (d + 1) 88 0 [some (.inl x)] [] σ v σ' ↔ v = some (.inl (fig x)) ∧ σ' = σ := by
  simp only [s88_0, s88_1, s88_3, s88_5, s88_8, s88_11, s88_12, s88_14, s88_15, s88_18, s88_19, c120, jcall_eq, Option.toList_some, Option.toList_none, List.cons_append, List.nil_append, jb_0]
  unfold fig
  by_cases h1 : 48 ≤ x ∧ x ≤ 57
  · rw [if_neg (fun z => z h1), if_pos h1]
  · rw [if_pos h1, if_neg h1]
/-- Text.next -/
theorem c87 (hL : M 9 (0, 0) 2 = jn L) (h1 : L ≤ 200) (h2 : s ≤ 1000) : jE (d + 1) 87 0 [some (.inr (.inr (some (9, (0, 0))))), none] [] (n, ([], tX M h s)) v σ' ↔ v = some (.inl (tx (M 12 (30, 0)) L s)) ∧ σ' = (n, ([], tX M h (s + 1))) := by
  simp only [s87_0, s87_1, s87_4, s87_5, s87_8, s87_11, s87_12, s87_15, s87_16, s87_19, s87_22, s87_25, s87_27, s87_28, s87_29, s87_30, s87_33, s87_34, s87_35, s87_38, s87_39, c59, jcall_eq, Option.toList_some, Option.toList_none, List.cons_append, List.nil_append, tX_2, tX_3, tX_30, jl_30, hL, jn_1, tX_put]
  unfold tx
  by_cases h3 : s < L
  · rw [if_neg (fun z => absurd ((jn_le (by omega) (by omega)).mp z) (by omega)), if_pos h3]
  · rw [if_pos ((jn_le (by omega) (by omega)).mpr (by omega)), if_neg h3]
/-- Text.number -/
theorem c86 (hL : M 9 (0, 0) 2 = jn L) (h1 : L ≤ 200) (h2 : s ≤ 990) : jE (d + 2) 86 0 [some (.inr (.inr (some (9, (0, 0))))), some (.inl x), some (.inl y), some (.inl z), none, none] [] (n, ([], tX M h s)) v σ' ↔ v = some (.inl (nmr (tx (M 12 (30, 0)) L) s x y z).1) ∧ σ' = (n, ([], tX M h (nmr (tx (M 12 (30, 0)) L) s x y z).2)) := by
  simp only [s86_0, s86_1, s86_4, s86_7, s86_9, s86_11, s86_14, s86_15, s86_16, s86_17, s86_20, s86_22, s86_24, s86_27, s86_30, s86_32, s86_34, s86_35, s86_37, s86_40, s86_41, s86_43, s86_44, s86_47, s86_49, s86_51, s86_52, s86_55, s86_57, s86_58, s86_59, s86_62, s86_65, s86_67, s86_70, s86_71, c87 hL h1 (show s ≤ 1000 by omega), c87 hL h1 (show s + 1 ≤ 1000 by omega), c87 hL h1 (show s + 1 + 1 ≤ 1000 by omega), c88, c120, jcall_eq, Option.toList_some, Option.toList_none, List.cons_append, List.nil_append, jb_0]
  unfold nmr
  by_cases h3 : fig (tx (M 12 (30, 0)) L s) < 0
  · rw [if_neg (Int32.not_le.mpr h3), if_pos h3]
  · rw [if_pos (Int32.not_lt.mp h3), if_neg h3]
    by_cases h4 : fig (tx (M 12 (30, 0)) L (s + 1)) < 0
    · rw [if_pos h4, if_pos h4]
      by_cases h5 : tx (M 12 (30, 0)) L (s + 1) = x
      · rw [if_neg (fun z => z h5)]
        by_cases h6 : y ≤ fig (tx (M 12 (30, 0)) L s) ∧ fig (tx (M 12 (30, 0)) L s) ≤ z
        · rw [if_neg (fun z => z h6), if_pos ⟨h5, h6⟩]
        · rw [if_pos h6, if_neg (fun z => h6 z.2)]
      · rw [if_pos h5, if_neg (fun z => h5 z.1)]
    · rw [if_neg h4, if_neg h4]
      by_cases h5 : tx (M 12 (30, 0)) L (s + 1 + 1) = x
      · rw [if_neg (fun z => z h5)]
        by_cases h6 : y ≤ fig (tx (M 12 (30, 0)) L s) * 10 + fig (tx (M 12 (30, 0)) L (s + 1)) ∧ fig (tx (M 12 (30, 0)) L s) * 10 + fig (tx (M 12 (30, 0)) L (s + 1)) ≤ z
        · rw [if_neg (fun z => z h6), if_pos ⟨h5, h6⟩]
        · rw [if_pos h6, if_neg (fun z => h6 z.2)]
      · rw [if_pos h5, if_neg (fun z => h5 z.1)]
theorem nmr_2 (t : Nat → Int32) (s : Nat) (x y z : Int32) : s < (nmr t s x y z).2 ∧ (nmr t s x y z).2 ≤ s + 3 := by
  unfold nmr
  by_cases h3 : fig (t s) < 0
  · rw [if_pos h3]; exact ⟨by show s < s + 1; omega, by show s + 1 ≤ s + 3; omega⟩
  · rw [if_neg h3]
    by_cases h4 : fig (t (s + 1)) < 0
    · rw [if_pos h4]; exact ⟨by show s < s + 2; omega, by show s + 2 ≤ s + 3; omega⟩
    · rw [if_neg h4]; exact ⟨by show s < s + 3; omega, by show s + 3 ≤ s + 3; omega⟩
/-- three numbers -/
def nm3 (t : Nat → Int32) (s : Nat) (a b c e : Int32) (lo : Int32) : Int32 × Int32 × Int32 × Nat :=
  ((nmr t s 44 0 a).1, (nmr t (nmr t s 44 0 a).2 44 lo b).1, (nmr t (nmr t (nmr t s 44 0 a).2 44 lo b).2 e 0 c).1, (nmr t (nmr t (nmr t s 44 0 a).2 44 lo b).2 e 0 c).2)
def scRd (t : Nat → Int32) (s : Nat) (h : Nat → Nat → Int32) : Int32 × Nat × (Nat → Nat → Int32) :=
  if (0 ≤ (nm3 t s 3 20 8 59 1).1 ∧ 0 ≤ (nm3 t s 3 20 8 59 1).2.1 ∧ 0 ≤ (nm3 t s 3 20 8 59 1).2.2.1) ∧ h 10 10 < 7 then (1, (nm3 t s 3 20 8 59 1).2.2.2, hTell 0 1 2 10 (nm3 t s 3 20 8 59 1).1 (nm3 t s 3 20 8 59 1).2.1 (nm3 t s 3 20 8 59 1).2.2.1 h) else (0, (nm3 t s 3 20 8 59 1).2.2.2, h)
def seRd (t : Nat → Int32) (s : Nat) (h : Nat → Nat → Int32) : Int32 × Nat × (Nat → Nat → Int32) :=
  if (0 ≤ (nm3 t s 3 3 30 59 0).1 ∧ 0 ≤ (nm3 t s 3 3 30 59 0).2.1 ∧ 0 ≤ (nm3 t s 3 3 30 59 0).2.2.1) ∧ h 10 11 < 7 then (1, (nm3 t s 3 3 30 59 0).2.2.2, hTell 5 6 7 11 (nm3 t s 3 3 30 59 0).1 (nm3 t s 3 3 30 59 0).2.1 (nm3 t s 3 3 30 59 0).2.2.1 h) else (0, (nm3 t s 3 3 30 59 0).2.2.2, h)
def tiRd (t : Nat → Int32) (s : Nat) (h : Nat → Nat → Int32) : Int32 × Nat × (Nat → Nat → Int32) :=
  (jb (0 ≤ (nmr t s 59 0 99).1), (nmr t s 59 0 99).2, hSc h 13 (nmr t s 59 0 99).1)
def blRun (t : Nat → Int32) : Nat → Nat → (Nat → Nat → Int32) → Int32 × Nat × (Nat → Nat → Int32)
  | 0, s, h => (0, s, h)
  | f + 1, s, h => if t s = 59 then (jb (0 < h 10 12), s + 1, h) else if (0 ≤ fig (t s) ∧ fig (t s) ≤ h 10 10 - 1) ∧ ¬ hBilled h (fig (t s)) then blRun t f (s + 1) (hMount h (fig (t s)) (hB h)) else (0, s + 1, h)
/-- Text.readScene -/
theorem c82 (hL : M 9 (0, 0) 2 = jn L) (h1 : L ≤ 200) (h2 : s ≤ 900) : jE (d + 3) 82 0 [some (.inr (.inr (some (9, (0, 0))))), none, none, none] [] (n, ([], tX M h s)) v σ' ↔ v = some (.inl (scRd (tx (M 12 (30, 0)) L) s h).1) ∧ σ' = (n, ([], tX M (scRd (tx (M 12 (30, 0)) L) s h).2.2 (scRd (tx (M 12 (30, 0)) L) s h).2.1)) := by
  have g1 := nmr_2 (tx (M 12 (30, 0)) L) s 44 0 3
  have g2 := nmr_2 (tx (M 12 (30, 0)) L) (nmr (tx (M 12 (30, 0)) L) s 44 0 3).2 44 1 20
  simp only [s82_0, s82_1, s82_3, s82_4, s82_5, s82_8, s82_9, s82_10, s82_12, s82_13, s82_15, s82_18, s82_19, s82_20, s82_22, s82_23, s82_25, s82_28, s82_29, s82_30, s82_33, s82_34, s82_37, s82_38, s82_41, s82_42, s82_45, s82_46, s82_47, s82_48, s82_51, s82_54, s82_55, s82_58, s82_59, c86 hL h1 (show s ≤ 990 by omega), c86 hL h1 (show (nmr (tx (M 12 (30, 0)) L) s 44 0 3).2 ≤ 990 by omega), c86 hL h1 (show (nmr (tx (M 12 (30, 0)) L) (nmr (tx (M 12 (30, 0)) L) s 44 0 3).2 44 1 20).2 ≤ 990 by omega), jcall_eq, Option.toList_some, Option.toList_none, List.cons_append, List.nil_append]
  unfold scRd nm3
  generalize nmr (tx (M 12 (30, 0)) L) (nmr (tx (M 12 (30, 0)) L) (nmr (tx (M 12 (30, 0)) L) s 44 0 3).2 44 1 20).2 59 0 8 = c
  generalize nmr (tx (M 12 (30, 0)) L) (nmr (tx (M 12 (30, 0)) L) s 44 0 3).2 44 1 20 = b
  generalize nmr (tx (M 12 (30, 0)) L) s 44 0 3 = a
  by_cases h3 : a.1 < 0
  · rw [if_pos h3, if_neg (fun z => absurd z.1.1 (Int32.not_le.mpr h3))]
    exact ⟨fun w => w.2, fun w => ⟨by simp, w⟩⟩
  · rw [if_neg h3]
    by_cases h4 : b.1 < 0
    · rw [if_pos h4, if_neg (fun z => absurd z.1.2.1 (Int32.not_le.mpr h4))]
      exact ⟨fun w => w.2, fun w => ⟨by simp, w⟩⟩
    · rw [if_neg h4]
      by_cases h5 : c.1 < 0
      · rw [if_pos h5, if_neg (fun z => absurd z.1.2.2 (Int32.not_le.mpr h5))]
        exact ⟨fun w => w.2, fun w => ⟨by simp, w⟩⟩
      · rw [if_neg h5]
        unfold tX
        simp only [c10, jcall_eq, Option.toList_some, Option.toList_none, List.cons_append, List.nil_append, jb_0, s82_51, s82_54, s82_55, s82_58, s82_59]
        by_cases h6 : h 10 10 < 7
        · rw [if_neg (fun z => z h6), if_pos h6, if_pos ⟨⟨Int32.not_lt.mp h3, Int32.not_lt.mp h4, Int32.not_lt.mp h5⟩, h6⟩]
          exact ⟨fun w => w.2, fun w => ⟨by simp, w⟩⟩
        · rw [if_pos h6, if_neg h6, if_neg (fun z => h6 z.2)]
          exact ⟨fun w => w.2, fun w => ⟨by simp, w⟩⟩
/-- Text.readSeat -/
theorem c83 (hL : M 9 (0, 0) 2 = jn L) (h1 : L ≤ 200) (h2 : s ≤ 900) : jE (d + 3) 83 0 [some (.inr (.inr (some (9, (0, 0))))), none, none, none] [] (n, ([], tX M h s)) v σ' ↔ v = some (.inl (seRd (tx (M 12 (30, 0)) L) s h).1) ∧ σ' = (n, ([], tX M (seRd (tx (M 12 (30, 0)) L) s h).2.2 (seRd (tx (M 12 (30, 0)) L) s h).2.1)) := by
  have g1 := nmr_2 (tx (M 12 (30, 0)) L) s 44 0 3
  have g2 := nmr_2 (tx (M 12 (30, 0)) L) (nmr (tx (M 12 (30, 0)) L) s 44 0 3).2 44 0 3
  simp only [s83_0, s83_1, s83_3, s83_4, s83_5, s83_8, s83_9, s83_10, s83_12, s83_13, s83_14, s83_17, s83_18, s83_19, s83_21, s83_22, s83_24, s83_27, s83_28, s83_29, s83_32, s83_33, s83_36, s83_37, s83_40, s83_41, s83_44, s83_45, s83_46, s83_47, s83_50, s83_53, s83_54, s83_57, s83_58, c86 hL h1 (show s ≤ 990 by omega), c86 hL h1 (show (nmr (tx (M 12 (30, 0)) L) s 44 0 3).2 ≤ 990 by omega), c86 hL h1 (show (nmr (tx (M 12 (30, 0)) L) (nmr (tx (M 12 (30, 0)) L) s 44 0 3).2 44 0 3).2 ≤ 990 by omega), jcall_eq, Option.toList_some, Option.toList_none, List.cons_append, List.nil_append]
  unfold seRd nm3
  generalize nmr (tx (M 12 (30, 0)) L) (nmr (tx (M 12 (30, 0)) L) (nmr (tx (M 12 (30, 0)) L) s 44 0 3).2 44 0 3).2 59 0 30 = c
  generalize nmr (tx (M 12 (30, 0)) L) (nmr (tx (M 12 (30, 0)) L) s 44 0 3).2 44 0 3 = b
  generalize nmr (tx (M 12 (30, 0)) L) s 44 0 3 = a
  by_cases h3 : a.1 < 0
  · rw [if_pos h3, if_neg (fun z => absurd z.1.1 (Int32.not_le.mpr h3))]
    exact ⟨fun w => w.2, fun w => ⟨by simp, w⟩⟩
  · rw [if_neg h3]
    by_cases h4 : b.1 < 0
    · rw [if_pos h4, if_neg (fun z => absurd z.1.2.1 (Int32.not_le.mpr h4))]
      exact ⟨fun w => w.2, fun w => ⟨by simp, w⟩⟩
    · rw [if_neg h4]
      by_cases h5 : c.1 < 0
      · rw [if_pos h5, if_neg (fun z => absurd z.1.2.2 (Int32.not_le.mpr h5))]
        exact ⟨fun w => w.2, fun w => ⟨by simp, w⟩⟩
      · rw [if_neg h5]
        unfold tX
        simp only [c11, jcall_eq, Option.toList_some, Option.toList_none, List.cons_append, List.nil_append, jb_0, s83_50, s83_53, s83_54, s83_57, s83_58]
        by_cases h6 : h 10 11 < 7
        · rw [if_neg (fun z => z h6), if_pos h6, if_pos ⟨⟨Int32.not_lt.mp h3, Int32.not_lt.mp h4, Int32.not_lt.mp h5⟩, h6⟩]
          exact ⟨fun w => w.2, fun w => ⟨by simp, w⟩⟩
        · rw [if_pos h6, if_neg h6, if_neg (fun z => h6 z.2)]
          exact ⟨fun w => w.2, fun w => ⟨by simp, w⟩⟩
/-- Text.readTill -/
theorem c85 (hL : M 9 (0, 0) 2 = jn L) (h1 : L ≤ 200) (h2 : s ≤ 900) : jE (d + 3) 85 0 [some (.inr (.inr (some (9, (0, 0))))), none] [] (n, ([], tX M h s)) v σ' ↔ v = some (.inl (tiRd (tx (M 12 (30, 0)) L) s h).1) ∧ σ' = (n, ([], tX M (tiRd (tx (M 12 (30, 0)) L) s h).2.2 (tiRd (tx (M 12 (30, 0)) L) s h).2.1)) := by
  simp only [s85_0, s85_1, s85_3, s85_4, s85_6, s85_9, s85_10, s85_11, s85_14, s85_15, s85_18, s85_19, s85_22, s85_23, s85_26, s85_27, c86 hL h1 (show s ≤ 990 by omega), jcall_eq, Option.toList_some, Option.toList_none, List.cons_append, List.nil_append]
  unfold tiRd tX hSc
  rw [sH_u13]
  generalize nmr (tx (M 12 (30, 0)) L) s 59 0 99 = a
  by_cases h3 : a.1 < 0
  · rw [if_pos h3, jb_f (Int32.not_le.mpr h3)]
    exact ⟨fun w => w.2, fun w => ⟨by simp, w⟩⟩
  · rw [if_neg h3, jb_t (Int32.not_lt.mp h3)]
    exact ⟨fun w => w.2, fun w => ⟨by simp, w⟩⟩
theorem c84_loop (hL : M 9 (0, 0) 2 = jn L) (h1 : L ≤ 200) {a : Nat} (ha : a ≤ 7) : ∀ (f k s l : Nat) (h : Nat → Nat → Int32) (a2 a3 : Option jV), k + f = 8 → s ≤ 980 + k → h 10 10 = jn a → h 10 12 = jn l → cIn l a (h 4) → (jE (d + 3) 84 10 [some (.inr (.inr (some (9, (0, 0))))), some (.inl (jn k)), a2, a3] [] (n, ([], tX M h s)) v σ' ↔ v = some (.inl (blRun (tx (M 12 (30, 0)) L) f s h).1) ∧ σ' = (n, ([], tX M (blRun (tx (M 12 (30, 0)) L) f s h).2.2 (blRun (tx (M 12 (30, 0)) L) f s h).2.1))) := by
  intro f
  induction f with
  | zero =>
    intro k s l h a2 a3 hk hs w1 w2 w3
    rw [s84_10, s84_11, s84_13, if_pos (show (7 : Int32) < jn k from (jn_lt (k := 7) (by omega) (by omega)).mpr (by omega)), s84_93, s84_94]
    exact ⟨fun w => w.2, fun w => ⟨by simp, w⟩⟩
  | succ f ih =>
    intro k s l h a2 a3 hk hs w1 w2 w3
    have hl := cIn_le ha w3
    have hB1 : hB h = l := by
      unfold hB
      rw [w2]
      exact jn_clamp (by omega)
    rw [s84_10, s84_11, s84_13, if_neg (show ¬ (7 : Int32) < jn k from fun z => absurd ((jn_lt (k := 7) (by omega) (by omega)).mp z) (by omega)), blRun]
    simp only [s84_16, s84_17, s84_20, s84_21, s84_22, s84_24, c87 hL h1 (show s ≤ 1000 by omega), jcall_eq, Option.toList_some, Option.toList_none, List.cons_append, List.nil_append]
    by_cases h5 : tx (M 12 (30, 0)) L s = 59
    · rw [if_neg (fun z => z h5), if_pos h5]
      unfold tX
      simp only [s84_27, s84_28, s84_31, s84_34, s84_37, s84_38, s84_41, s84_42, sH_g0, sH_g1, sH_g2, sH_g3, sH_g4, sH_g5, sH_g6, sH_g7, sH_g8, sH_g9, sH_p0, sH_p1, sH_p2, sH_p3, sH_p4, sH_p5, sH_p6, sH_p7, sH_p8, sH_p9, sH_s10, sH_s11, sH_s12, sH_s13, sH_s14, sH_s15, sH_u10, sH_u11, sH_u12, sH_u13, sH_u14, sH_u15]
      by_cases h6 : 0 < h 10 12
      · rw [if_neg (Int32.not_le.mpr h6), jb_t h6]
        exact ⟨fun w => w.2, fun w => ⟨by simp, w⟩⟩
      · rw [if_pos (Int32.not_lt.mp h6), jb_f h6]
        exact ⟨fun w => w.2, fun w => ⟨by simp, w⟩⟩
    · rw [if_pos h5, if_neg h5]
      simp only [s84_43, s84_44, s84_47, s84_48, s84_49, s84_52, s84_53, s84_56, s84_59, s84_60, s84_63, s84_64, s84_67, s84_70, s84_71, c88, jcall_eq, Option.toList_some, Option.toList_none, List.cons_append, List.nil_append, tX, b12, b16, jb_0]
      by_cases h6 : 0 ≤ fig (tx (M 12 (30, 0)) L s) ∧ fig (tx (M 12 (30, 0)) L s) ≤ h 10 10 - 1
      · rw [if_neg (fun z => z h6)]
        by_cases h7 : hBilled h (fig (tx (M 12 (30, 0)) L s))
        · rw [if_neg (fun z => z h7), if_neg (fun z => z.2 h7)]
          exact ⟨fun w => w.2, fun w => ⟨by simp, w⟩⟩
        · rw [if_pos h7, if_pos ⟨h6, h7⟩]
          have e1 : fig (tx (M 12 (30, 0)) L s) = jn (fig (tx (M 12 (30, 0)) L s)).toNatClampNeg := (jx_of h6.1).symm
          have e2 : (fig (tx (M 12 (30, 0)) L s)).toNatClampNeg < a := by
            have h8 := h6.2
            rw [w1] at h8
            have h9 : 0 < a := by
              rcases Nat.eq_zero_or_pos a with z | z
              · rw [z] at h8
                have := Int32.le_trans h6.1 h8
                exact absurd this (by decide)
              · exact z
            have e3 : jn a - 1 = jn (a - 1) := by
              conv => lhs; rw [show a = a - 1 + 1 by omega]
              exact jn_sub1 _
            rw [e3, e1, jn_le (jx_lt _) (by omega)] at h8
            omega
          have hm : ∀ i, i < l → h 4 i ≠ jn (fig (tx (M 12 (30, 0)) L s)).toNatClampNeg := by
            intro i hi z
            refine h7 ?_
            unfold hBilled hOnBill
            rw [hB1, e1]
            obtain ⟨p, hp, hpe⟩ : ∃ p, p < l ∧ (h 4 p = jn (fig (tx (M 12 (30, 0)) L s)).toNatClampNeg ∧ ∀ j, j < p → h 4 j ≠ jn (fig (tx (M 12 (30, 0)) L s)).toNatClampNeg) := ⟨i, hi, z, fun j hj e => by have := w3.2 j i (by omega) hi (e.trans z.symm); omega⟩
            rw [rfind_some (by omega) l 0 p (by omega) (by omega) (by omega) hpe.1 (fun j _ hj => hpe.2 j hj)]
            exact jn_ne4 (by omega)
          have hr := cIn_lt ha w3 e2 hm
          have hmt := fun (v : Option jV) (σ' : jS) => b17 (d := d) (n := n) (i := 0) (M := jUp M 9 (0, 0) 3 (jn (s + 1))) (h := h) (x := fig (tx (M 12 (30, 0)) L s)) (v := v) (σ' := σ') (p := l) w2 (show l < 7 by omega) (Nat.le_refl l)
          rw [← w2] at hmt
          simp only [s84_72, s84_73, s84_76, s84_77, s84_78, s84_81, s84_84, s84_87, sH_g0, sH_g1, sH_g2, sH_g3, sH_g4, sH_g5, sH_g6, sH_g7, sH_g8, sH_g9, sH_p0, sH_p1, sH_p2, sH_p3, sH_p4, sH_p5, sH_p6, sH_p7, sH_p8, sH_p9, sH_s10, sH_s11, sH_s12, sH_s13, sH_s14, sH_s15, sH_u10, sH_u11, sH_u12, sH_u13, sH_u14, sH_u15, hmt, jcall_eq, Option.toList_some, Option.toList_none, List.cons_append, List.nil_append]
          rw [s84_90, jn_1, hB1]
          refine ih (k + 1) (s + 1) (l + 1) (hMount h (fig (tx (M 12 (30, 0)) L s)) l) _ _ (by omega) (by omega) ?_ ?_ ?_
          · unfold hMount
            rw [hSc_10' (by decide), nset_ne (by decide)]
            exact w1
          · unfold hMount
            rw [hSc_10, hB1]
          · unfold hMount
            rw [hSc_f (by decide), nset_at, hB1, e1]
            exact cIn_ins w3 e2 (Nat.le_refl l) hm
      · rw [if_pos h6, if_neg (fun z => h6 z.1)]
        exact ⟨fun w => w.2, fun w => ⟨by simp, w⟩⟩
def blRd (t : Nat → Int32) (s : Nat) (h : Nat → Nat → Int32) : Int32 × Nat × (Nat → Nat → Int32) := blRun t 8 s (hSc h 12 0)
/-- Text.readBill -/
theorem c84 (hL : M 9 (0, 0) 2 = jn L) (h1 : L ≤ 200) {a : Nat} (ha : a ≤ 7) (h2 : s ≤ 900) (w : h 10 10 = jn a) : jE (d + 3) 84 0 [some (.inr (.inr (some (9, (0, 0))))), none, none, none] [] (n, ([], tX M h s)) v σ' ↔ v = some (.inl (blRd (tx (M 12 (30, 0)) L) s h).1) ∧ σ' = (n, ([], tX M (blRd (tx (M 12 (30, 0)) L) s h).2.2 (blRd (tx (M 12 (30, 0)) L) s h).2.1)) := by
  have e : jUp (tX M h s) 1 (0, 0) 12 0 = tX M (hSc h 12 0) s := by
    unfold tX
    rw [sH_u12]
    rfl
  simp only [s84_0, s84_1, s84_4, s84_5, s84_8, s84_9, e]
  refine c84_loop hL h1 ha 8 0 s 0 (hSc h 12 0) none none (by omega) (by omega) ?_ ?_ ⟨fun i hi => absurd hi (by omega), fun i j hi => absurd hi (by omega)⟩
  · rw [hSc_10' (by decide)]; exact w
  · rw [hSc_10]; rfl
end JT
