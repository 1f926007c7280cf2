/-! the reference reads its text: letters and numbers -/
def pM (M : jM) (s : Nat) (z : Int32) : jM := jUp (jUp M 11 (0, 0) 13 (jn s)) 11 (0, 0) 14 z
def tH (t : Nat → Int32) (L : Nat) (M : jM) : Prop := L ≤ 200 ∧ M 11 (0, 0) 1 = jn L ∧ ∀ i, t i = if i < L then M 14 (40, 0) i else -4
def nmW (t : Nat → Int32) (s : Nat) : Int32 × Nat :=
  if 48 ≤ t s ∧ t s ≤ 57 then (if 48 ≤ t (s + 1) ∧ t (s + 1) ≤ 57 then (10 * (0 + t s - 48) + t (s + 1) - 48, s + 2) else (0 + t s - 48, s + 1)) else (-4, s)
def zA (z : Int32) (P : Prop) [Decidable P] : Int32 := jb (¬ (z = 0 ∧ P))
theorem zA_0 {z : Int32} {P : Prop} [Decidable P] : zA z P = 0 ↔ z = 0 ∧ P := by
  unfold zA
  rw [jb_0]
  exact Classical.not_not
section JRT
variable {d n L s s' : Nat} {v : Option jV} {σ' : jS} {M : jM} {x y z z' lo hi e : Int32} {t : Nat → Int32}
theorem pM_13 : pM M s z 11 (0, 0) 13 = jn s := by unfold pM; rw [jUp_s (by decide), jUp_at]
theorem pM_14 : pM M s z 11 (0, 0) 14 = z := by unfold pM; rw [jUp_at]
theorem pM_s {k : Nat} (h : k ≠ 13 ∧ k ≠ 14) : pM M s z 11 (0, 0) k = M 11 (0, 0) k := by unfold pM; rw [jUp_s h.2, jUp_s h.1]
theorem pM_k {k : Nat} (h : k ≠ 11) : pM M s z k = M k := by unfold pM; rw [jUp_k h, jUp_k h]
theorem pM_12 : pM M s z 12 = M 12 := pM_k (by decide)
theorem up_cm {k k' j j' : Nat} {a a' : jA} (h : j ≠ j') : jUp (jUp M k a j x) k' a' j' y = jUp (jUp M k' a' j' y) k a j x := by
  funext q b i
  unfold jUp
  by_cases h1 : q = k' ∧ b = a' ∧ i = j'
  · rw [if_pos h1, if_neg (fun z => h (z.2.2.symm.trans h1.2.2)), if_pos h1]
  · rw [if_neg h1, if_neg h1]
theorem pM_p14 : jUp (pM M s z) 11 (0, 0) 14 z' = pM M s z' := by unfold pM; rw [jUp_up]
theorem pM_p13 : jUp (pM M s z) 11 (0, 0) 13 (jn s') = pM M s' z := by
  unfold pM
  rw [up_cm (show (14 : Nat) ≠ 13 by decide), jUp_up]
theorem pM_mC {a : jA} {c : Nat → Int32} : mC (pM M s z) a c = pM (mC M a c) s z := by
  unfold pM
  rw [mC_jUp (by decide), mC_jUp (by decide)]
theorem pM_up {k : Nat} (h : k ≠ 13 ∧ k ≠ 14) : jUp (pM M s z) 11 (0, 0) k x = pM (jUp M 11 (0, 0) k x) s z := by
  unfold pM
  rw [up_cm (Ne.symm h.2), up_cm (Ne.symm h.1)]
theorem pM_self (h1 : M 11 (0, 0) 13 = jn s) (h2 : M 11 (0, 0) 14 = z) : pM M s z = M := by
  unfold pM
  rw [← h1, jUp_self, ← h2, jUp_self]
theorem tH_mC {a : jA} {c : Nat → Int32} (w : tH t L M) : tH t L (mC M a c) := by
  unfold tH
  rw [mC_k (by decide), mC_k (by decide)]
  exact w
theorem tH_up {k : Nat} (w : tH t L M) (h : k ≠ 1) : tH t L (jUp M 11 (0, 0) k x) := by
  unfold tH
  rw [jUp_s (Ne.symm h), jUp_k (by decide)]
  exact w
theorem tH_5 (w : I5 L M) : tH (tx (M 12 (30, 0)) L) L M := by
  refine ⟨w.1, w.2.2.1, fun i => ?_⟩
  unfold tx
  by_cases h : i < L
  · rw [if_pos h, if_pos h, rg_in (by omega) (by have := w.1; omega)]
    exact ((w.2.2.2 i h).1).symm
  · rw [if_neg h, if_neg h]
/-- here -/
theorem r126 (w : tH t L M) (hs : s ≤ 1000) : jE d 126 0 [some (.inr (.inr (some (11, (0, 0)))))] [] (n, ([], pM M s z)) v σ' ↔ v = some (.inl (t s)) ∧ σ' = (n, ([], pM M s z)) := by
  have hL := w.1
  simp only [s126_0, s126_1, s126_4, s126_5, s126_8, pM_13, pM_s (show (1 : Nat) ≠ 13 ∧ (1 : Nat) ≠ 14 by decide), w.2.1]
  rw [w.2.2 s]
  by_cases h : s < L
  · rw [if_neg (fun z => absurd ((jn_le (by omega) (by omega)).mp z) (by omega)), if_pos h]
    simp (disch := omega) only [s126_11, s126_12, s126_15, s126_16, s126_19, s126_20, s126_25, jm_40, jiz, jcl, pM_13, pM_k (show (14 : Nat) ≠ 11 by decide)]
  · rw [if_pos ((jn_le (by omega) (by omega)).mpr (by omega)), if_neg h, s126_23, s126_25]
/-- isFigure -/
theorem r127 (w : tH t L M) (hs : s ≤ 1000) : jE (d + 1) 127 0 [some (.inr (.inr (some (11, (0, 0)))))] [] (n, ([], pM M s z)) v σ' ↔ v = some (.inl (jb (48 ≤ t s ∧ t s ≤ 57))) ∧ σ' = (n, ([], pM M s z)) := by
  simp only [s127_0, s127_1, s127_4, s127_6, s127_8, s127_11, r126 w hs, r123, jcall_eq, Option.toList_some, Option.toList_none, List.cons_append, List.nil_append]
  exact jb01 (jb_01 _)
/-- due -/
theorem r128 (w : tH t L M) (hs : s ≤ 1000) : jE (d + 1) 128 0 [some (.inr (.inr (some (11, (0, 0))))), some (.inl x)] [] (n, ([], pM M s z)) v σ' ↔ v = none ∧ σ' = (n, ([], pM M (s + 1) (zA z (t s = x)))) := by
  unfold zA
  simp only [s128_0, s128_1, s128_2, s128_5, s128_8, s128_9, s128_12, s128_13, s128_16, s128_17, s128_20, s128_21, s128_24, s128_25, s128_26, s128_29, s128_30, s128_31, s128_34, r126 w hs, jcall_eq, Option.toList_some, Option.toList_none, List.cons_append, List.nil_append, pM_14, pM_13, pM_p14, pM_p13, jn_1]
  by_cases h1 : z = 0
  · rw [if_neg (fun q => q h1)]
    by_cases h2 : t s = x
    · rw [if_pos h2, jb_f (fun q => q ⟨h1, h2⟩)]
      exact ⟨fun q => q.2, fun q => ⟨by simp, q⟩⟩
    · rw [if_neg h2, jb_t (show ¬ (z = 0 ∧ t s = x) from fun q => h2 q.2)]
      exact ⟨fun q => q.2, fun q => ⟨by simp, q⟩⟩
  · rw [if_pos h1, jb_t (show ¬ (z = 0 ∧ t s = x) from fun q => h1 q.1)]
    exact ⟨fun q => q.2, fun q => ⟨by simp, q⟩⟩
/-- number -/
theorem r129_58 {k : Option jV} : jE (d + 2) 129 58 [some (.inr (.inr (some (11, (0, 0))))), some (.inl lo), some (.inl hi), some (.inl x), k] [] (n, ([], pM M s z)) v σ' ↔ v = some (.inl x) ∧ σ' = (n, ([], pM M s (zA z (lo ≤ x ∧ x ≤ hi)))) := by
  unfold zA
  simp only [s129_58, s129_59, s129_60, s129_63, s129_66, s129_67, s129_68, s129_69, s129_72, s129_75, s129_76, s129_79, s129_80, s129_83, s129_84, r123, jcall_eq, Option.toList_some, Option.toList_none, List.cons_append, List.nil_append, pM_14, pM_p14, jb_0]
  by_cases h1 : z = 0
  · rw [if_neg (fun q => q h1)]
    by_cases h2 : lo ≤ x ∧ x ≤ hi
    · rw [if_pos (fun q => q h2), jb_f (fun q => q ⟨h1, h2⟩)]
      exact ⟨fun q => q.2, fun q => ⟨by simp, q⟩⟩
    · rw [if_neg (fun q => q h2), jb_t (show ¬ (z = 0 ∧ (lo ≤ x ∧ x ≤ hi)) from fun q => h2 q.2)]
      exact ⟨fun q => q.2, fun q => ⟨by simp, q⟩⟩
  · rw [if_pos h1, jb_t (show ¬ (z = 0 ∧ (lo ≤ x ∧ x ≤ hi)) from fun q => h1 q.1)]
    exact ⟨fun q => q.2, fun q => ⟨by simp, q⟩⟩
theorem r129_6 (w : tH t L M) (hs : s ≤ 1000) : jE (d + 2) 129 6 [some (.inr (.inr (some (11, (0, 0))))), some (.inl lo), some (.inl hi), some (.inl x), some (.inl y)] [] (n, ([], pM M s z)) v σ' ↔ if 2 ≤ y then jE (d + 2) 129 58 [some (.inr (.inr (some (11, (0, 0))))), some (.inl lo), some (.inl hi), some (.inl x), some (.inl y)] [] (n, ([], pM M s z)) v σ' else if 48 ≤ t s ∧ t s ≤ 57 then jE (d + 2) 129 55 [some (.inr (.inr (some (11, (0, 0))))), some (.inl lo), some (.inl hi), some (.inl ((if x = -4 then 0 else 10 * x) + t s - 48)), some (.inl (y + 1))] [] (n, ([], pM M (s + 1) z)) v σ' else jE (d + 2) 129 58 [some (.inr (.inr (some (11, (0, 0))))), some (.inl lo), some (.inl hi), some (.inl x), some (.inl y)] [] (n, ([], pM M s z)) v σ' := by
  simp only [s129_6, s129_8, s129_9, s129_12, s129_13, s129_16, s129_19, s129_20, s129_22, s129_25, s129_26, s129_29, s129_31, s129_32, s129_33, s129_34, s129_37, s129_38, s129_40, s129_41, s129_42, s129_43, s129_44, s129_47, s129_48, s129_49, s129_52, r127 w hs, r126 w hs, jcall_eq, Option.toList_some, Option.toList_none, List.cons_append, List.nil_append, jb_0, pM_13, jn_1, pM_p13, jifN]
  by_cases h1 : 2 ≤ y
  · rw [if_pos h1, if_pos h1]
  · rw [if_neg h1, if_neg h1]
    by_cases h2 : 48 ≤ t s ∧ t s ≤ 57
    · rw [if_pos h2, if_pos h2]
      by_cases h3 : x = -4
      · rw [if_pos h3, if_pos h3]
      · rw [if_neg h3, if_neg h3]
    · rw [if_neg h2, if_neg h2]
theorem fig_in (h : 48 ≤ x ∧ x ≤ 57) : ∃ k, k ≤ 9 ∧ x - 48 = jn k ∧ x = jn (48 + k) := by
  have h0 : 0 ≤ x := Int32.le_trans (by decide) h.1
  have e := jx_of h0
  have h1 : x.toNatClampNeg ≤ 57 := jx_le (k := 57) h0 (by omega) h.2
  have h2 : 48 ≤ x.toNatClampNeg := by
    have h3 := h.1
    rw [← e] at h3
    exact (jn_le (k := 48) (by omega) (by omega)).mp h3
  refine ⟨x.toNatClampNeg - 48, by omega, ?_, ?_⟩
  · conv => lhs; rw [← e]
    exact jn_sub (a := x.toNatClampNeg) (b := 48) h2
  · rw [show 48 + (x.toNatClampNeg - 48) = x.toNatClampNeg by omega, e]
theorem r129 (w : tH t L M) (hs : s ≤ 990) : jE (d + 2) 129 0 [some (.inr (.inr (some (11, (0, 0))))), some (.inl lo), some (.inl hi), none, none] [] (n, ([], pM M s z)) v σ' ↔ v = some (.inl (nmW t s).1) ∧ σ' = (n, ([], pM M (nmW t s).2 (zA z (lo ≤ (nmW t s).1 ∧ (nmW t s).1 ≤ hi)))) := by
  rw [s129_0, s129_2, s129_3, s129_4, r129_6 w (by omega), if_neg (show ¬ (2 : Int32) ≤ 0 by decide)]
  unfold nmW
  by_cases h1 : 48 ≤ t s ∧ t s ≤ 57
  · rw [if_pos h1, if_pos h1, if_pos rfl, s129_55, show (0 : Int32) + 1 = 1 from rfl, r129_6 w (by omega), if_neg (show ¬ (2 : Int32) ≤ 1 by decide)]
    obtain ⟨k, hk, e1, e2⟩ := fig_in h1
    by_cases h2 : 48 ≤ t (s + 1) ∧ t (s + 1) ≤ 57
    · rw [if_pos h2, if_pos h2, s129_55, show (1 : Int32) + 1 = 2 from rfl, r129_6 w (by omega), if_pos (show (2 : Int32) ≤ 2 by decide)]
      rw [if_neg (show ¬ 0 + t s - 48 = -4 by rw [Int32.zero_add, e1]; exact jn_ne4 (by omega))]
      exact r129_58
    · rw [if_neg h2, if_neg h2]
      exact r129_58
  · rw [if_neg h1, if_neg h1]
    exact r129_58
theorem nmW_2 (t : Nat → Int32) (s : Nat) : s ≤ (nmW t s).2 ∧ (nmW t s).2 ≤ s + 2 := by
  unfold nmW
  by_cases h1 : 48 ≤ t s ∧ t s ≤ 57
  · rw [if_pos h1]
    by_cases h2 : 48 ≤ t (s + 1) ∧ t (s + 1) ≤ 57
    · rw [if_pos h2]; exact ⟨by show s ≤ s + 2; omega, by show s + 2 ≤ s + 2; omega⟩
    · rw [if_neg h2]; exact ⟨by show s ≤ s + 1; omega, by show s + 1 ≤ s + 2; omega⟩
  · rw [if_neg h1]; exact ⟨by show s ≤ s; omega, by show s ≤ s + 2; omega⟩
theorem fig_no (h : ¬ (48 ≤ x ∧ x ≤ 57)) : fig x < 0 := by
  unfold fig
  rw [if_neg h]
  decide
theorem fig_yes (h : 48 ≤ x ∧ x ≤ 57) : ¬ fig x < 0 ∧ fig x = x - 48 := by
  unfold fig
  rw [if_pos h]
  obtain ⟨k, hk, e1, _⟩ := fig_in h
  rw [e1]
  exact ⟨jn_npos (by omega), rfl⟩
/-- the same numbers -/
theorem nm_ok (hlo : 0 ≤ lo) : (((lo ≤ (nmW t s).1 ∧ (nmW t s).1 ≤ hi) ∧ t (nmW t s).2 = e) ↔ 0 ≤ (nmr t s e lo hi).1) ∧ (0 ≤ (nmr t s e lo hi).1 → (nmr t s e lo hi).1 = (nmW t s).1 ∧ (nmr t s e lo hi).2 = (nmW t s).2 + 1) := by
  unfold nmW nmr
  by_cases h1 : 48 ≤ t s ∧ t s ≤ 57
  · obtain ⟨f1, f2⟩ := fig_yes h1
    obtain ⟨k, hk, e1, e2⟩ := fig_in h1
    rw [if_pos h1, if_neg f1]
    by_cases h2 : 48 ≤ t (s + 1) ∧ t (s + 1) ≤ 57
    · obtain ⟨f3, f4⟩ := fig_yes h2
      obtain ⟨j, hj, e3, e4⟩ := fig_in h2
      rw [if_pos h2, if_neg f3, f2, f4, e1, e3]
      have e5 : 10 * (0 + t s - 48) + t (s + 1) - 48 = jn k * 10 + jn j := by
        rw [Int32.zero_add, e1, e4]
        show jn 10 * jn k + jn (48 + j) - jn 48 = jn k * jn 10 + jn j
        rw [jn_mul, jn_mul, jn_add, jn_sub (by omega), jn_add]
        exact congrArg jn (by omega)
      rw [e5]
      by_cases h3 : t (s + 2) = e ∧ lo ≤ jn k * 10 + jn j ∧ jn k * 10 + jn j ≤ hi
      · rw [if_pos h3]
        exact ⟨⟨fun _ => Int32.le_trans hlo h3.2.1, fun _ => ⟨h3.2, h3.1⟩⟩, fun _ => ⟨rfl, rfl⟩⟩
      · rw [if_neg h3]
        exact ⟨⟨fun q => absurd ⟨q.2, q.1⟩ h3, fun q => absurd (show (0 : Int32) ≤ -1 from q) (by decide)⟩, fun q => absurd (show (0 : Int32) ≤ -1 from q) (by decide)⟩
    · rw [if_neg h2, if_pos (fig_no h2), f2, Int32.zero_add]
      by_cases h3 : t (s + 1) = e ∧ lo ≤ t s - 48 ∧ t s - 48 ≤ hi
      · rw [if_pos h3]
        exact ⟨⟨fun _ => Int32.le_trans hlo h3.2.1, fun _ => ⟨h3.2, h3.1⟩⟩, fun _ => ⟨rfl, rfl⟩⟩
      · rw [if_neg h3]
        exact ⟨⟨fun q => absurd ⟨q.2, q.1⟩ h3, fun q => absurd (show (0 : Int32) ≤ -1 from q) (by decide)⟩, fun q => absurd (show (0 : Int32) ≤ -1 from q) (by decide)⟩
  · rw [if_neg h1, if_pos (fig_no h1)]
    refine ⟨⟨fun q => absurd (show (0 : Int32) ≤ -4 from Int32.le_trans hlo q.1.1) (by decide), fun q => absurd (show (0 : Int32) ≤ -1 from q) (by decide)⟩, fun q => absurd (show (0 : Int32) ≤ -1 from q) (by decide)⟩
end JRT
