/-! the reference takes its draft -/
abbrev tkS (f : Nat) : Prop := f = 42 ∨ f = 43 ∨ f = 44 ∨ f = 45 ∨ f = 46 ∨ f = 48 ∨ f = 49 ∨ f = 55
def tkF (M : jM) (c : Nat → Nat → Int32) : jM := fun k a s => if k = 12 ∧ a.2 = 0 ∧ tkS a.1 then c a.1 s else M k a s
def lyK (k : Nat) (a : jA) (s : Nat) : Prop := ¬ scr k a s ∧ ¬ fS k a s ∧ ¬ (k = 12 ∧ a = (55, 0)) ∧ ¬ (k = 11 ∧ (s = 17 ∨ s = 19 ∨ s = 29))
section JRL
variable {d n L s s' a b l m f : Nat} {v : Option jV} {σ' : jS} {M N : jM} {x y z z' lo hi e : Int32} {t : Nat → Int32} {h : jH} {c : Nat → Nat → Int32}
theorem tkF_at (h : tkS f) : tkF M c 12 (f, 0) = c f := by
  funext s
  exact if_pos ⟨rfl, rfl, h⟩
theorem tkF_ne (h : ¬ tkS f) : tkF M c 12 (f, 0) = M 12 (f, 0) := by
  funext s
  exact if_neg (fun z => h z.2.2)
theorem tkF_k {k : Nat} (h : k ≠ 12) : tkF M c k = M k := by
  funext a s
  exact if_neg (fun z => h z.1)
theorem tkF_mC {r : Nat → Int32} (h : tkS f) : mC (tkF M c) (f, 0) r = tkF M (nset c f r) := by
  funext k a s
  unfold mC tkF nset
  obtain ⟨a1, a2⟩ := a
  by_cases h1 : k = 12 ∧ (a1, a2) = (f, 0)
  · obtain ⟨rfl, h2⟩ := h1
    obtain ⟨rfl, rfl⟩ := Prod.mk.inj h2
    rw [if_pos ⟨rfl, rfl⟩, if_pos ⟨rfl, rfl, h⟩, if_pos rfl]
  · rw [if_neg h1]
    by_cases h2 : k = 12 ∧ a2 = 0 ∧ tkS a1
    · rw [if_pos h2, if_pos h2, if_neg]
      intro z
      exact h1 ⟨h2.1, by rw [show a1 = f from z, h2.2.1]⟩
    · rw [if_neg h2, if_neg h2]
theorem tkF_self : tkF M (fun f => M 12 (f, 0)) = M := by
  funext k a s
  unfold tkF
  obtain ⟨a1, a2⟩ := a
  by_cases h2 : k = 12 ∧ a2 = 0 ∧ tkS a1
  · rw [if_pos h2]
    obtain ⟨rfl, h3, _⟩ := h2
    rw [show a2 = 0 from h3]
  · rw [if_neg h2]
theorem r140_l1 : ∀ (m k : Nat) (c : Nat → Nat → Int32), k + m = 39 → ∃ c' : Nat → Nat → Int32, (∀ f, f ≠ 55 → c' f = c f) ∧ (∀ j, j < k ∨ 39 ≤ j → c' 55 j = c 55 j) ∧ (∀ j, k ≤ j → j < 39 → c' 55 j = 0) ∧ ∀ (v : Option jV) (σ' : jS), jE d 140 26 [some (.inr (.inr (some (11, (0, 0))))), some (.inl (jn k))] [] (n, ([], tkF M c)) v σ' ↔ jE d 140 45 [some (.inr (.inr (some (11, (0, 0))))), some (.inl 39)] [] (n, ([], tkF M c')) v σ' := by
  intro m
  induction m with
  | zero =>
    intro k c hk
    obtain rfl : k = 39 := by omega
    refine ⟨c, fun _ _ => rfl, fun _ _ => rfl, fun j h1 h2 => by omega, fun v σ' => ?_⟩
    rw [s140_26, s140_27, s140_29, if_pos (show (39 : Int32) ≤ jn 39 by decide)]
    rfl
  | succ m ih =>
    intro k c hk
    obtain ⟨c', h1, h2, h3, h4⟩ := ih (k + 1) (nset c 55 (upd (c 55) k 0)) (by omega)
    have u : ∀ j, nset c 55 (upd (c 55) k 0) 55 j = if j = k then 0 else c 55 j := fun j => rfl
    refine ⟨c', fun f hf => (h1 f hf).trans (nset_ne hf), fun j hj => ?_, fun j k1 k2 => ?_, fun v σ' => ?_⟩
    · rw [h2 j (by omega), u, if_neg (by omega)]
    · by_cases e : j = k
      · rw [h2 j (by omega), u, if_pos e]
      · exact h3 j (by omega) k2
    · rw [s140_26, s140_27, s140_29, if_neg (show ¬ (39 : Int32) ≤ jn k from fun z => absurd ((jn_le (k := 39) (by omega) (by omega)).mp z) (by omega))]
      simp (disch := omega) only [s140_32, s140_33, s140_36, s140_37, s140_38, s140_39, jm_55, jiz, jcl, mC_up, tkF_at (show tkS 55 by decide), tkF_mC (show tkS 55 by decide), jn_1]
      rw [s140_42]
      exact h4 v σ'
theorem r140_l2 (h11 : M 11 (0, 0) 11 = jn l) (hl : l ≤ 7) : ∀ (m k : Nat) (c : Nat → Nat → Int32), k + m = 7 → ∃ c' : Nat → Nat → Int32, (∀ f, f ≠ 43 → f ≠ 44 → f ≠ 45 → f ≠ 55 → c' f = c f) ∧ (∀ f j, (f = 43 ∨ f = 44 ∨ f = 45 ∨ f = 55) → (j < k ∨ 7 ≤ j) → c' f j = c f j) ∧ (∀ j, k ≤ j → j < 7 → c' 43 j = c 43 (7 + j) ∧ c' 44 j = c 44 (7 + j) ∧ c' 45 j = c 45 (7 + j) ∧ c' 55 j = if j < l then M 12 (50, 0) j else 0) ∧ ∀ (v : Option jV) (σ' : jS), jE d 140 47 [some (.inr (.inr (some (11, (0, 0))))), some (.inl (jn k))] [] (n, ([], tkF M c)) v σ' ↔ jE d 140 130 [some (.inr (.inr (some (11, (0, 0))))), some (.inl 7)] [] (n, ([], tkF M c')) v σ' := by
  intro m
  induction m with
  | zero =>
    intro k c hk
    obtain rfl : k = 7 := by omega
    refine ⟨c, fun _ _ _ _ _ => rfl, fun _ _ _ _ => rfl, fun j h1 h2 => by omega, fun v σ' => ?_⟩
    rw [s140_47, s140_48, s140_50, if_pos (show (7 : Int32) ≤ jn 7 by decide)]
    rfl
  | succ m ih =>
    intro k c hk
    obtain ⟨c', h1, h2, h3, h4⟩ := ih (k + 1) (nset (nset (nset (nset c 43 (upd (c 43) k (c 43 (7 + k)))) 44 (upd (c 44) k (c 44 (7 + k)))) 45 (upd (c 45) k (c 45 (7 + k)))) 55 (upd (c 55) k (if k < l then M 12 (50, 0) k else 0))) (by omega)
    have u43 : ∀ j, nset (nset (nset (nset c 43 (upd (c 43) k (c 43 (7 + k)))) 44 (upd (c 44) k (c 44 (7 + k)))) 45 (upd (c 45) k (c 45 (7 + k)))) 55 (upd (c 55) k (if k < l then M 12 (50, 0) k else 0)) 43 j = if j = k then c 43 (7 + k) else c 43 j := fun j => rfl
    have u44 : ∀ j, nset (nset (nset (nset c 43 (upd (c 43) k (c 43 (7 + k)))) 44 (upd (c 44) k (c 44 (7 + k)))) 45 (upd (c 45) k (c 45 (7 + k)))) 55 (upd (c 55) k (if k < l then M 12 (50, 0) k else 0)) 44 j = if j = k then c 44 (7 + k) else c 44 j := fun j => rfl
    have u45 : ∀ j, nset (nset (nset (nset c 43 (upd (c 43) k (c 43 (7 + k)))) 44 (upd (c 44) k (c 44 (7 + k)))) 45 (upd (c 45) k (c 45 (7 + k)))) 55 (upd (c 55) k (if k < l then M 12 (50, 0) k else 0)) 45 j = if j = k then c 45 (7 + k) else c 45 j := fun j => rfl
    have u55 : ∀ j, nset (nset (nset (nset c 43 (upd (c 43) k (c 43 (7 + k)))) 44 (upd (c 44) k (c 44 (7 + k)))) 45 (upd (c 45) k (c 45 (7 + k)))) 55 (upd (c 55) k (if k < l then M 12 (50, 0) k else 0)) 55 j = if j = k then (if k < l then M 12 (50, 0) k else 0) else c 55 j := fun j => rfl
    refine ⟨c', fun f f1 f2 f3 f4 => ?_, fun f j hf hj => ?_, fun j k1 k2 => ?_, fun v σ' => ?_⟩
    · rw [h1 f f1 f2 f3 f4, nset_ne f4, nset_ne f3, nset_ne f2, nset_ne f1]
    · rw [h2 f j hf (by omega)]
      rcases hf with rfl | rfl | rfl | rfl
      · rw [u43, if_neg (by omega)]
      · rw [u44, if_neg (by omega)]
      · rw [u45, if_neg (by omega)]
      · rw [u55, if_neg (by omega)]
    · by_cases e : j = k
      · rw [h2 43 j (by omega) (by omega), h2 44 j (by omega) (by omega), h2 45 j (by omega) (by omega), h2 55 j (by omega) (by omega), u43, u44, u45, u55, if_pos e, if_pos e, if_pos e, if_pos e, e]
        exact ⟨rfl, rfl, rfl, rfl⟩
      · have h5 := h3 j (by omega) k2
        rw [u43, u44, u45, if_neg (by omega), if_neg (by omega), if_neg (by omega)] at h5
        exact h5
    · rw [s140_47, s140_48, s140_50, if_neg (show ¬ (7 : Int32) ≤ jn k from fun z => absurd ((jn_le (k := 7) (by omega) (by omega)).mp z) (by omega))]
      simp (disch := omega) only [s140_53, s140_54, s140_57, s140_58, s140_59, s140_62, s140_64, s140_65, s140_66, s140_67, s140_68, s140_69, s140_72, s140_73, s140_74, s140_77, s140_79, s140_80, s140_81, s140_82, s140_83, s140_84, s140_87, s140_88, s140_89, s140_92, s140_94, s140_95, s140_96, s140_97, s140_98, s140_99, s140_102, s140_103, s140_104, s140_105, s140_106, s140_107, s140_110, jm_43, jm_44, jm_45, jiz, jcl, jnA0, jnA7, mC_up, tkF_at (show tkS 43 by decide), tkF_at (show tkS 44 by decide), tkF_at (show tkS 45 by decide), tkF_at (show tkS 55 by decide), tkF_mC (show tkS 43 by decide), tkF_mC (show tkS 44 by decide), tkF_mC (show tkS 45 by decide), nset_at, nset_ne (show (44 : Nat) ≠ 43 by decide), nset_ne (show (45 : Nat) ≠ 44 by decide), nset_ne (show (45 : Nat) ≠ 43 by decide), tkF_k (show (11 : Nat) ≠ 12 by decide), h11]
      by_cases e : k < l
      · rw [if_neg (fun z => absurd ((jn_le (by omega) (by omega)).mp z) (by omega))]
        rw [if_pos e] at h4
        simp (disch := omega) only [s140_113, s140_114, s140_117, s140_118, s140_119, s140_123, s140_124, jm_50, jm_55, jiz, jcl, mC_up, tkF_at (show tkS 55 by decide), tkF_ne (show ¬ tkS 50 by decide), tkF_mC (show tkS 55 by decide), nset_ne (show (55 : Nat) ≠ 43 by decide), nset_ne (show (55 : Nat) ≠ 44 by decide), nset_ne (show (55 : Nat) ≠ 45 by decide), jn_1]
        rw [s140_127]
        exact h4 v σ'
      · rw [if_pos ((jn_le (by omega) (by omega)).mpr (by omega))]
        rw [if_neg e] at h4
        simp (disch := omega) only [s140_122, s140_123, s140_124, jm_55, jiz, jcl, mC_up, tkF_at (show tkS 55 by decide), tkF_mC (show tkS 55 by decide), nset_ne (show (55 : Nat) ≠ 43 by decide), nset_ne (show (55 : Nat) ≠ 44 by decide), nset_ne (show (55 : Nat) ≠ 45 by decide), jn_1]
        rw [s140_127]
        exact h4 v σ'
theorem r140_l3 : ∀ (m k : Nat) (c : Nat → Nat → Int32), k + m = 7 → ∃ c' : Nat → Nat → Int32, (∀ f, f ≠ 48 → f ≠ 49 → f ≠ 55 → c' f = c f) ∧ (∀ f j, (f = 48 ∨ f = 49) → (j < k ∨ 7 ≤ j) → c' f j = c f j) ∧ (∀ j, (∀ i, k ≤ i → i < 7 → j ≠ 11 + i ∧ j ≠ 18 + i) → c' 55 j = c 55 j) ∧ (∀ j, k ≤ j → j < 7 → c' 48 j = c 48 (7 + j) ∧ c' 49 j = c 49 (7 + j) ∧ c' 55 (11 + j) = M 12 (47, 0) j ∧ c' 55 (18 + j) = jn j) ∧ ∀ (v : Option jV) (σ' : jS), jE d 140 132 [some (.inr (.inr (some (11, (0, 0))))), some (.inl (jn k))] [] (n, ([], tkF M c)) v σ' ↔ jE d 140 199 [some (.inr (.inr (some (11, (0, 0))))), some (.inl 7)] [] (n, ([], tkF M c')) v σ' := by
  intro m
  induction m with
  | zero =>
    intro k c hk
    obtain rfl : k = 7 := by omega
    refine ⟨c, fun _ _ _ _ => rfl, fun _ _ _ _ => rfl, fun _ _ => rfl, fun j h1 h2 => by omega, fun v σ' => ?_⟩
    rw [s140_132, s140_133, s140_135, if_pos (show (7 : Int32) ≤ jn 7 by decide)]
    rfl
  | succ m ih =>
    intro k c hk
    obtain ⟨c', h1, h2, h0, h3, h4⟩ := ih (k + 1) (nset (nset (nset c 48 (upd (c 48) k (c 48 (7 + k)))) 49 (upd (c 49) k (c 49 (7 + k)))) 55 (upd (upd (c 55) (11 + k) (M 12 (47, 0) k)) (18 + k) (jn k))) (by omega)
    have u48 : ∀ j, nset (nset (nset c 48 (upd (c 48) k (c 48 (7 + k)))) 49 (upd (c 49) k (c 49 (7 + k)))) 55 (upd (upd (c 55) (11 + k) (M 12 (47, 0) k)) (18 + k) (jn k)) 48 j = if j = k then c 48 (7 + k) else c 48 j := fun j => rfl
    have u49 : ∀ j, nset (nset (nset c 48 (upd (c 48) k (c 48 (7 + k)))) 49 (upd (c 49) k (c 49 (7 + k)))) 55 (upd (upd (c 55) (11 + k) (M 12 (47, 0) k)) (18 + k) (jn k)) 49 j = if j = k then c 49 (7 + k) else c 49 j := fun j => rfl
    have u55 : ∀ j, nset (nset (nset c 48 (upd (c 48) k (c 48 (7 + k)))) 49 (upd (c 49) k (c 49 (7 + k)))) 55 (upd (upd (c 55) (11 + k) (M 12 (47, 0) k)) (18 + k) (jn k)) 55 j = if j = 18 + k then jn k else if j = 11 + k then M 12 (47, 0) k else c 55 j := fun j => rfl
    refine ⟨c', fun f f1 f2 f3 => ?_, fun f j hf hj => ?_, fun j hj => ?_, fun j k1 k2 => ?_, fun v σ' => ?_⟩
    · rw [h1 f f1 f2 f3, nset_ne f3, nset_ne f2, nset_ne f1]
    · rw [h2 f j hf (by omega)]
      rcases hf with rfl | rfl
      · rw [u48, if_neg (by omega)]
      · rw [u49, if_neg (by omega)]
    · have h5 := hj k (by omega) (by omega)
      rw [h0 j (fun i i1 i2 => hj i (by omega) i2), u55, if_neg h5.2, if_neg h5.1]
    · by_cases e : j = k
      · rw [h2 48 j (by omega) (by omega), h2 49 j (by omega) (by omega), h0 (11 + j) (fun i i1 i2 => by omega), h0 (18 + j) (fun i i1 i2 => by omega), u48, u49, u55, u55, if_pos e, if_pos e, if_neg (by omega), if_pos (by omega), if_pos (by omega), e]
        exact ⟨rfl, rfl, rfl, rfl⟩
      · have h5 := h3 j (by omega) k2
        rw [u48, u49, if_neg (by omega), if_neg (by omega)] at h5
        exact h5
    · rw [s140_132, s140_133, s140_135, if_neg (show ¬ (7 : Int32) ≤ jn k from fun z => absurd ((jn_le (k := 7) (by omega) (by omega)).mp z) (by omega))]
      simp (disch := omega) only [s140_138, s140_139, s140_142, s140_143, s140_144, s140_147, s140_149, s140_150, s140_151, s140_152, s140_153, s140_154, s140_157, s140_158, s140_159, s140_162, s140_164, s140_165, s140_166, s140_167, s140_168, s140_169, s140_172, s140_174, s140_175, s140_176, s140_177, s140_180, s140_181, s140_182, s140_183, s140_184, s140_187, s140_189, s140_190, s140_191, s140_192, s140_193, jm_47, jm_48, jm_49, jm_55, jiz, jcl, jnA7, jnA11, jnA18, mC_up, tkF_at (show tkS 48 by decide), tkF_at (show tkS 49 by decide), tkF_at (show tkS 55 by decide), tkF_ne (show ¬ tkS 47 by decide), tkF_mC (show tkS 48 by decide), tkF_mC (show tkS 49 by decide), tkF_mC (show tkS 55 by decide), nset_at, nset_ne (show (49 : Nat) ≠ 48 by decide), nset_ne (show (55 : Nat) ≠ 48 by decide), nset_ne (show (55 : Nat) ≠ 49 by decide), nset_nset, jn_1]
      rw [s140_196]
      exact h4 v σ'
end JRL
