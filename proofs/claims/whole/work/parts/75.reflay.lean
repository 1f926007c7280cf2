/-! the reference takes its draft -/
abbrev tkS (f : Nat) : Prop := f = 42 ∨ f = 43 ∨ f = 44 ∨ f = 45 ∨ f = 46 ∨ f = 48 ∨ f = 49 ∨ f = 55
def tkF (M : jM) (c : Nat → Nat → Int32) : jM := fun k a s => if k = 12 ∧ a.2 = 0 ∧ tkS a.1 then c a.1 s else M k a s
def lyK (k : Nat) (a : jA) (s : Nat) : Prop := ¬ scr k a s ∧ ¬ fS k a s ∧ ¬ (k = 12 ∧ a = (55, 0)) ∧ ¬ (k = 11 ∧ (s = 17 ∨ s = 19 ∨ s = 29))
section JRL
variable {d n L s s' a b l m f : Nat} {v : Option jV} {σ' : jS} {M N : jM} {x y z z' lo hi e : Int32} {t : Nat → Int32} {h : jH} {c : Nat → Nat → Int32}
theorem tkF_at (h : tkS f) : tkF M c 12 (f, 0) = c f := by
  funext s
  exact if_pos ⟨rfl, rfl, h⟩
theorem tkF_ne (h : ¬ tkS f) : tkF M c 12 (f, 0) = M 12 (f, 0) := by
  funext s
  exact if_neg (fun z => h z.2.2)
theorem tkF_k {k : Nat} (h : k ≠ 12) : tkF M c k = M k := by
  funext a s
  exact if_neg (fun z => h z.1)
theorem tkF_mC {r : Nat → Int32} (h : tkS f) : mC (tkF M c) (f, 0) r = tkF M (nset c f r) := by
  funext k a s
  unfold mC tkF nset
  obtain ⟨a1, a2⟩ := a
  by_cases h1 : k = 12 ∧ (a1, a2) = (f, 0)
  · obtain ⟨rfl, h2⟩ := h1
    obtain ⟨rfl, rfl⟩ := Prod.mk.inj h2
    rw [if_pos ⟨rfl, rfl⟩, if_pos ⟨rfl, rfl, h⟩, if_pos rfl]
  · rw [if_neg h1]
    by_cases h2 : k = 12 ∧ a2 = 0 ∧ tkS a1
    · rw [if_pos h2, if_pos h2, if_neg]
      intro z
      exact h1 ⟨h2.1, by rw [show a1 = f from z, h2.2.1]⟩
    · rw [if_neg h2, if_neg h2]
theorem tkF_self : tkF M (fun f => M 12 (f, 0)) = M := by
  funext k a s
  unfold tkF
  obtain ⟨a1, a2⟩ := a
  by_cases h2 : k = 12 ∧ a2 = 0 ∧ tkS a1
  · rw [if_pos h2]
    obtain ⟨rfl, h3, _⟩ := h2
    rw [show a2 = 0 from h3]
  · rw [if_neg h2]
theorem r140_l1 : ∀ (m k : Nat) (c : Nat → Nat → Int32), k + m = 39 → ∃ c' : Nat → Nat → Int32, (∀ f, f ≠ 55 → c' f = c f) ∧ (∀ j, j < k ∨ 39 ≤ j → c' 55 j = c 55 j) ∧ (∀ j, k ≤ j → j < 39 → c' 55 j = 0) ∧ ∀ (v : Option jV) (σ' : jS), jE d 140 26 [some (.inr (.inr (some (11, (0, 0))))), some (.inl (jn k))] [] (n, ([], tkF M c)) v σ' ↔ jE d 140 45 [some (.inr (.inr (some (11, (0, 0))))), some (.inl 39)] [] (n, ([], tkF M c')) v σ' := by
  intro m
  induction m with
  | zero =>
    intro k c hk
    obtain rfl : k = 39 := by omega
    refine ⟨c, fun _ _ => rfl, fun _ _ => rfl, fun j h1 h2 => by omega, fun v σ' => ?_⟩
    rw [s140_26, s140_27, s140_29, if_pos (show (39 : Int32) ≤ jn 39 by decide)]
    rfl
  | succ m ih =>
    intro k c hk
    obtain ⟨c', h1, h2, h3, h4⟩ := ih (k + 1) (nset c 55 (upd (c 55) k 0)) (by omega)
    have u : ∀ j, nset c 55 (upd (c 55) k 0) 55 j = if j = k then 0 else c 55 j := fun j => rfl
    refine ⟨c', fun f hf => (h1 f hf).trans (nset_ne hf), fun j hj => ?_, fun j k1 k2 => ?_, fun v σ' => ?_⟩
    · rw [h2 j (by omega), u, if_neg (by omega)]
    · by_cases e : j = k
      · rw [h2 j (by omega), u, if_pos e]
      · exact h3 j (by omega) k2
    · rw [s140_26, s140_27, s140_29, if_neg (show ¬ (39 : Int32) ≤ jn k from fun z => absurd ((jn_le (k := 39) (by omega) (by omega)).mp z) (by omega))]
      simp (disch := omega) only [s140_32, s140_33, s140_36, s140_37, s140_38, s140_39, jm_55, jiz, jcl, mC_up, tkF_at (show tkS 55 by decide), tkF_mC (show tkS 55 by decide), jn_1]
      rw [s140_42]
      exact h4 v σ'
theorem r140_l2 (h11 : M 11 (0, 0) 11 = jn l) (hl : l ≤ 7) : ∀ (m k : Nat) (c : Nat → Nat → Int32), k + m = 7 → ∃ c' : Nat → Nat → Int32, (∀ f, f ≠ 43 → f ≠ 44 → f ≠ 45 → f ≠ 55 → c' f = c f) ∧ (∀ f j, (f = 43 ∨ f = 44 ∨ f = 45 ∨ f = 55) → (j < k ∨ 7 ≤ j) → c' f j = c f j) ∧ (∀ j, k ≤ j → j < 7 → c' 43 j = c 43 (7 + j) ∧ c' 44 j = c 44 (7 + j) ∧ c' 45 j = c 45 (7 + j) ∧ c' 55 j = if j < l then M 12 (50, 0) j else 0) ∧ ∀ (v : Option jV) (σ' : jS), jE d 140 47 [some (.inr (.inr (some (11, (0, 0))))), some (.inl (jn k))] [] (n, ([], tkF M c)) v σ' ↔ jE d 140 130 [some (.inr (.inr (some (11, (0, 0))))), some (.inl 7)] [] (n, ([], tkF M c')) v σ' := by
  intro m
  induction m with
  | zero =>
    intro k c hk
    obtain rfl : k = 7 := by omega
    refine ⟨c, fun _ _ _ _ _ => rfl, fun _ _ _ _ => rfl, fun j h1 h2 => by omega, fun v σ' => ?_⟩
    rw [s140_47, s140_48, s140_50, if_pos (show (7 : Int32) ≤ jn 7 by decide)]
    rfl
  | succ m ih =>
    intro k c hk
    obtain ⟨c', h1, h2, h3, h4⟩ := ih (k + 1) (nset (nset (nset (nset c 43 (upd (c 43) k (c 43 (7 + k)))) 44 (upd (c 44) k (c 44 (7 + k)))) 45 (upd (c 45) k (c 45 (7 + k)))) 55 (upd (c 55) k (if k < l then M 12 (50, 0) k else 0))) (by omega)
    have u43 : ∀ j, nset (nset (nset (nset c 43 (upd (c 43) k (c 43 (7 + k)))) 44 (upd (c 44) k (c 44 (7 + k)))) 45 (upd (c 45) k (c 45 (7 + k)))) 55 (upd (c 55) k (if k < l then M 12 (50, 0) k else 0)) 43 j = if j = k then c 43 (7 + k) else c 43 j := fun j => rfl
    have u44 : ∀ j, nset (nset (nset (nset c 43 (upd (c 43) k (c 43 (7 + k)))) 44 (upd (c 44) k (c 44 (7 + k)))) 45 (upd (c 45) k (c 45 (7 + k)))) 55 (upd (c 55) k (if k < l then M 12 (50, 0) k else 0)) 44 j = if j = k then c 44 (7 + k) else c 44 j := fun j => rfl
    have u45 : ∀ j, nset (nset (nset (nset c 43 (upd (c 43) k (c 43 (7 + k)))) 44 (upd (c 44) k (c 44 (7 + k)))) 45 (upd (c 45) k (c 45 (7 + k)))) 55 (upd (c 55) k (if k < l then M 12 (50, 0) k else 0)) 45 j = if j = k then c 45 (7 + k) else c 45 j := fun j => rfl
    have u55 : ∀ j, nset (nset (nset (nset c 43 (upd (c 43) k (c 43 (7 + k)))) 44 (upd (c 44) k (c 44 (7 + k)))) 45 (upd (c 45) k (c 45 (7 + k)))) 55 (upd (c 55) k (if k < l then M 12 (50, 0) k else 0)) 55 j = if j = k then (if k < l then M 12 (50, 0) k else 0) else c 55 j := fun j => rfl
    refine ⟨c', fun f f1 f2 f3 f4 => ?_, fun f j hf hj => ?_, fun j k1 k2 => ?_, fun v σ' => ?_⟩
    · rw [h1 f f1 f2 f3 f4, nset_ne f4, nset_ne f3, nset_ne f2, nset_ne f1]
    · rw [h2 f j hf (by omega)]
      rcases hf with rfl | rfl | rfl | rfl
      · rw [u43, if_neg (by omega)]
      · rw [u44, if_neg (by omega)]
      · rw [u45, if_neg (by omega)]
      · rw [u55, if_neg (by omega)]
    · by_cases e : j = k
      · rw [h2 43 j (by omega) (by omega), h2 44 j (by omega) (by omega), h2 45 j (by omega) (by omega), h2 55 j (by omega) (by omega), u43, u44, u45, u55, if_pos e, if_pos e, if_pos e, if_pos e, e]
        exact ⟨rfl, rfl, rfl, rfl⟩
      · have h5 := h3 j (by omega) k2
        rw [u43, u44, u45, if_neg (by omega), if_neg (by omega), if_neg (by omega)] at h5
        exact h5
    · rw [s140_47, s140_48, s140_50, if_neg (show ¬ (7 : Int32) ≤ jn k from fun z => absurd ((jn_le (k := 7) (by omega) (by omega)).mp z) (by omega))]
      simp (disch := omega) only [s140_53, s140_54, s140_57, s140_58, s140_59, s140_62, s140_64, s140_65, s140_66, s140_67, s140_68, s140_69, s140_72, s140_73, s140_74, s140_77, s140_79, s140_80, s140_81, s140_82, s140_83, s140_84, s140_87, s140_88, s140_89, s140_92, s140_94, s140_95, s140_96, s140_97, s140_98, s140_99, s140_102, s140_103, s140_104, s140_105, s140_106, s140_107, s140_110, jm_43, jm_44, jm_45, jiz, jcl, jnA0, jnA7, mC_up, tkF_at (show tkS 43 by decide), tkF_at (show tkS 44 by decide), tkF_at (show tkS 45 by decide), tkF_at (show tkS 55 by decide), tkF_mC (show tkS 43 by decide), tkF_mC (show tkS 44 by decide), tkF_mC (show tkS 45 by decide), nset_at, nset_ne (show (44 : Nat) ≠ 43 by decide), nset_ne (show (45 : Nat) ≠ 44 by decide), nset_ne (show (45 : Nat) ≠ 43 by decide), tkF_k (show (11 : Nat) ≠ 12 by decide), h11]
      by_cases e : k < l
      · rw [if_neg (fun z => absurd ((jn_le (by omega) (by omega)).mp z) (by omega))]
        rw [if_pos e] at h4
        simp (disch := omega) only [s140_113, s140_114, s140_117, s140_118, s140_119, s140_123, s140_124, jm_50, jm_55, jiz, jcl, mC_up, tkF_at (show tkS 55 by decide), tkF_ne (show ¬ tkS 50 by decide), tkF_mC (show tkS 55 by decide), nset_ne (show (55 : Nat) ≠ 43 by decide), nset_ne (show (55 : Nat) ≠ 44 by decide), nset_ne (show (55 : Nat) ≠ 45 by decide), jn_1]
        rw [s140_127]
        exact h4 v σ'
      · rw [if_pos ((jn_le (by omega) (by omega)).mpr (by omega))]
        rw [if_neg e] at h4
        simp (disch := omega) only [s140_122, s140_123, s140_124, jm_55, jiz, jcl, mC_up, tkF_at (show tkS 55 by decide), tkF_mC (show tkS 55 by decide), nset_ne (show (55 : Nat) ≠ 43 by decide), nset_ne (show (55 : Nat) ≠ 44 by decide), nset_ne (show (55 : Nat) ≠ 45 by decide), jn_1]
        rw [s140_127]
        exact h4 v σ'
theorem r140_l3 : ∀ (m k : Nat) (c : Nat → Nat → Int32), k + m = 7 → ∃ c' : Nat → Nat → Int32, (∀ f, f ≠ 48 → f ≠ 49 → f ≠ 55 → c' f = c f) ∧ (∀ f j, (f = 48 ∨ f = 49) → (j < k ∨ 7 ≤ j) → c' f j = c f j) ∧ (∀ j, (∀ i, k ≤ i → i < 7 → j ≠ 11 + i ∧ j ≠ 18 + i) → c' 55 j = c 55 j) ∧ (∀ j, k ≤ j → j < 7 → c' 48 j = c 48 (7 + j) ∧ c' 49 j = c 49 (7 + j) ∧ c' 55 (11 + j) = M 12 (47, 0) j ∧ c' 55 (18 + j) = jn j) ∧ ∀ (v : Option jV) (σ' : jS), jE d 140 132 [some (.inr (.inr (some (11, (0, 0))))), some (.inl (jn k))] [] (n, ([], tkF M c)) v σ' ↔ jE d 140 199 [some (.inr (.inr (some (11, (0, 0))))), some (.inl 7)] [] (n, ([], tkF M c')) v σ' := by
  intro m
  induction m with
  | zero =>
    intro k c hk
    obtain rfl : k = 7 := by omega
    refine ⟨c, fun _ _ _ _ => rfl, fun _ _ _ _ => rfl, fun _ _ => rfl, fun j h1 h2 => by omega, fun v σ' => ?_⟩
    rw [s140_132, s140_133, s140_135, if_pos (show (7 : Int32) ≤ jn 7 by decide)]
    rfl
  | succ m ih =>
    intro k c hk
    obtain ⟨c', h1, h2, h0, h3, h4⟩ := ih (k + 1) (nset (nset (nset c 48 (upd (c 48) k (c 48 (7 + k)))) 49 (upd (c 49) k (c 49 (7 + k)))) 55 (upd (upd (c 55) (11 + k) (M 12 (47, 0) k)) (18 + k) (jn k))) (by omega)
    have u48 : ∀ j, nset (nset (nset c 48 (upd (c 48) k (c 48 (7 + k)))) 49 (upd (c 49) k (c 49 (7 + k)))) 55 (upd (upd (c 55) (11 + k) (M 12 (47, 0) k)) (18 + k) (jn k)) 48 j = if j = k then c 48 (7 + k) else c 48 j := fun j => rfl
    have u49 : ∀ j, nset (nset (nset c 48 (upd (c 48) k (c 48 (7 + k)))) 49 (upd (c 49) k (c 49 (7 + k)))) 55 (upd (upd (c 55) (11 + k) (M 12 (47, 0) k)) (18 + k) (jn k)) 49 j = if j = k then c 49 (7 + k) else c 49 j := fun j => rfl
    have u55 : ∀ j, nset (nset (nset c 48 (upd (c 48) k (c 48 (7 + k)))) 49 (upd (c 49) k (c 49 (7 + k)))) 55 (upd (upd (c 55) (11 + k) (M 12 (47, 0) k)) (18 + k) (jn k)) 55 j = if j = 18 + k then jn k else if j = 11 + k then M 12 (47, 0) k else c 55 j := fun j => rfl
    refine ⟨c', fun f f1 f2 f3 => ?_, fun f j hf hj => ?_, fun j hj => ?_, fun j k1 k2 => ?_, fun v σ' => ?_⟩
    · rw [h1 f f1 f2 f3, nset_ne f3, nset_ne f2, nset_ne f1]
    · rw [h2 f j hf (by omega)]
      rcases hf with rfl | rfl
      · rw [u48, if_neg (by omega)]
      · rw [u49, if_neg (by omega)]
    · have h5 := hj k (by omega) (by omega)
      rw [h0 j (fun i i1 i2 => hj i (by omega) i2), u55, if_neg h5.2, if_neg h5.1]
    · by_cases e : j = k
      · rw [h2 48 j (by omega) (by omega), h2 49 j (by omega) (by omega), h0 (11 + j) (fun i i1 i2 => by omega), h0 (18 + j) (fun i i1 i2 => by omega), u48, u49, u55, u55, if_pos e, if_pos e, if_neg (by omega), if_pos (by omega), if_pos (by omega), e]
        exact ⟨rfl, rfl, rfl, rfl⟩
      · have h5 := h3 j (by omega) k2
        rw [u48, u49, if_neg (by omega), if_neg (by omega)] at h5
        exact h5
    · rw [s140_132, s140_133, s140_135, if_neg (show ¬ (7 : Int32) ≤ jn k from fun z => absurd ((jn_le (k := 7) (by omega) (by omega)).mp z) (by omega))]
      simp (disch := omega) only [s140_138, s140_139, s140_142, s140_143, s140_144, s140_147, s140_149, s140_150, s140_151, s140_152, s140_153, s140_154, s140_157, s140_158, s140_159, s140_162, s140_164, s140_165, s140_166, s140_167, s140_168, s140_169, s140_172, s140_174, s140_175, s140_176, s140_177, s140_180, s140_181, s140_182, s140_183, s140_184, s140_187, s140_189, s140_190, s140_191, s140_192, s140_193, jm_47, jm_48, jm_49, jm_55, jiz, jcl, jnA7, jnA11, jnA18, mC_up, tkF_at (show tkS 48 by decide), tkF_at (show tkS 49 by decide), tkF_at (show tkS 55 by decide), tkF_ne (show ¬ tkS 47 by decide), tkF_mC (show tkS 48 by decide), tkF_mC (show tkS 49 by decide), tkF_mC (show tkS 55 by decide), nset_at, nset_ne (show (49 : Nat) ≠ 48 by decide), nset_ne (show (55 : Nat) ≠ 48 by decide), nset_ne (show (55 : Nat) ≠ 49 by decide), nset_nset, jn_1]
      rw [s140_196]
      exact h4 v σ'
/-- takeDraft -/
theorem r140 (g : hTd a b l h) (q : dM a b l M h) : ∃ N, rS a b N h ∧ rD a b l (N 12 (55, 0)) h ∧ (N 11 (0, 0) 17 = 0 ∧ N 11 (0, 0) 19 = 0 ∧ N 11 (0, 0) 29 = 0) ∧ eqO lyK M N ∧ ∀ (v : Option jV) (σ' : jS), jE d 140 0 [some (.inr (.inr (some (11, (0, 0))))), none] [] (n, ([], M)) v σ' ↔ v = none ∧ σ' = (n, ([], N)) := by
  have g1 := g.1
  generalize hc1 : nset (nset (fun f => M 12 (f, 0)) 42 (upd (M 12 (42, 0)) 0 (M 12 (42, 0) 1))) 46 (upd (M 12 (46, 0)) 0 (M 12 (46, 0) 1)) = c1
  obtain ⟨c2, p1, p2, p3, p4⟩ := r140_l1 (d := d) (n := n) (M := M) 39 0 c1 (by omega)
  obtain ⟨c3, q1, q2, q3, q4⟩ := r140_l2 (d := d) (n := n) (M := M) q.1.2.2.1 g1.2.2 7 0 c2 (by omega)
  obtain ⟨c4, s1, s2, s0, s3, s4⟩ := r140_l3 (d := d) (n := n) (M := M) 7 0 c3 (by omega)
  have k0 : ∀ f, f ≠ 42 → f ≠ 46 → c1 f = M 12 (f, 0) := by
    intro f h1 h2
    rw [← hc1, nset_ne h2, nset_ne h1]
  have k42 : c1 42 = upd (M 12 (42, 0)) 0 (M 12 (42, 0) 1) := by rw [← hc1]; rfl
  have k46 : c1 46 = upd (M 12 (46, 0)) 0 (M 12 (46, 0) 1) := by rw [← hc1]; rfl
  have f42 : c4 42 = upd (M 12 (42, 0)) 0 (M 12 (42, 0) 1) := by
    rw [s1 42 (by decide) (by decide) (by decide), q1 42 (by decide) (by decide) (by decide) (by decide), p1 42 (by decide), k42]
  have f46 : c4 46 = upd (M 12 (46, 0)) 0 (M 12 (46, 0) 1) := by
    rw [s1 46 (by decide) (by decide) (by decide), q1 46 (by decide) (by decide) (by decide) (by decide), p1 46 (by decide), k46]
  have f43 : ∀ f, f = 43 ∨ f = 44 ∨ f = 45 → ∀ j, 7 ≤ j → c4 f j = M 12 (f, 0) j := by
    intro f hf j hj
    rw [s1 f (by omega) (by omega) (by omega), q2 f j (by omega) (Or.inr hj), p1 f (by omega), k0 f (by omega) (by omega)]
  have f48 : ∀ f, f = 48 ∨ f = 49 → ∀ j, 7 ≤ j → c4 f j = M 12 (f, 0) j := by
    intro f hf j hj
    rw [s2 f j (by omega) (Or.inr hj), q1 f (by omega) (by omega) (by omega) (by omega), p1 f (by omega), k0 f (by omega) (by omega)]
  have z55 : ∀ j, j < 39 → (j < 7 → c4 55 j = if j < l then M 12 (50, 0) j else 0) ∧ (25 ≤ j → c4 55 j = 0) ∧ (7 ≤ j → j < 11 → c4 55 j = 0) := by
    intro j hj
    refine ⟨fun h1 => ?_, fun h1 => ?_, fun h1 h2 => ?_⟩
    · rw [s0 j (fun i _ _ => by omega)]
      exact (q3 j (by omega) h1).2.2.2
    · rw [s0 j (fun i _ _ => by omega), q2 55 j (by omega) (by omega)]
      exact p3 j (by omega) hj
    · rw [s0 j (fun i _ _ => by omega), q2 55 j (by omega) (by omega)]
      exact p3 j (by omega) hj
  generalize hc5 : nset c4 55 (upd (upd (c4 55) 7 (M 11 (0, 0) 11)) 8 (M 11 (0, 0) 12)) = c5
  have e55 : c5 55 = upd (upd (c4 55) 7 (M 11 (0, 0) 11)) 8 (M 11 (0, 0) 12) := by rw [← hc5, nset_at]
  have ene : ∀ f, f ≠ 55 → c5 f = c4 f := fun f hf => by rw [← hc5, nset_ne hf]
  have u : ∀ j, c5 55 j = if j = 8 then M 11 (0, 0) 12 else if j = 7 then M 11 (0, 0) 11 else c4 55 j := fun j => by rw [e55]; rfl
  have rd : ∀ f, tkS f → jUp (jUp (jUp (tkF M c5) 11 (0, 0) 17 0) 11 (0, 0) 19 0) 11 (0, 0) 29 0 12 (f, 0) = c5 f := fun f hf => by rw [jUp_k (by decide), jUp_k (by decide), jUp_k (by decide), tkF_at hf]
  refine ⟨jUp (jUp (jUp (tkF M c5) 11 (0, 0) 17 0) 11 (0, 0) 19 0) 11 (0, 0) 29 0, ⟨⟨?_, ?_⟩, fun s hs => ⟨?_, ?_, ?_⟩, fun s hs => ⟨?_, ?_⟩⟩, ⟨fun i hi => ?_, ⟨?_, ?_, ?_, ?_⟩, fun s hs => ⟨?_, ?_, ?_⟩, fun s hs => ?_⟩, ⟨?_, ?_, ?_⟩, ?_, fun v σ' => ?_⟩
  · rw [rd 42 (by decide), ene 42 (by decide), f42]; exact q.1.1
  · rw [rd 46 (by decide), ene 46 (by decide), f46]; exact q.1.2.1
  · rw [rd 43 (by decide), ene 43 (by decide), s1 43 (by decide) (by decide) (by decide), (q3 s (by omega) (by omega)).1, p1 43 (by decide), k0 43 (by decide) (by decide)]; exact (q.2.1 s hs).1
  · rw [rd 44 (by decide), ene 44 (by decide), s1 44 (by decide) (by decide) (by decide), (q3 s (by omega) (by omega)).2.1, p1 44 (by decide), k0 44 (by decide) (by decide)]; exact (q.2.1 s hs).2.1
  · rw [rd 45 (by decide), ene 45 (by decide), s1 45 (by decide) (by decide) (by decide), (q3 s (by omega) (by omega)).2.2.1, p1 45 (by decide), k0 45 (by decide) (by decide)]; exact (q.2.1 s hs).2.2
  · rw [rd 48 (by decide), ene 48 (by decide), (s3 s (by omega) (by omega)).1, q1 48 (by decide) (by decide) (by decide) (by decide), p1 48 (by decide), k0 48 (by decide) (by decide)]; exact (q.2.2.1 s hs).2.1
  · rw [rd 49 (by decide), ene 49 (by decide), (s3 s (by omega) (by omega)).2.1, q1 49 (by decide) (by decide) (by decide) (by decide), p1 49 (by decide), k0 49 (by decide) (by decide)]; exact (q.2.2.1 s hs).2.2
  · rw [rd 55 (by decide), u, if_neg (by omega), if_neg (by omega), (z55 i (by omega)).1 (by omega), if_pos hi]; exact q.2.2.2 i hi
  · rw [rd 55 (by decide), u, if_neg (by decide), if_pos rfl, q.1.2.2.1]; exact g.2.1.2.2.1.symm
  · rw [rd 55 (by decide), u, if_pos rfl]; exact q.1.2.2.2
  · rw [rd 55 (by decide), u, if_neg (by decide), if_neg (by decide), (z55 9 (by omega)).2.2 (by omega) (by omega)]; exact g.2.1.2.2.2.1.symm
  · rw [rd 55 (by decide), u, if_neg (by decide), if_neg (by decide), (z55 10 (by omega)).2.2 (by omega) (by omega)]; exact g.2.1.2.2.2.2.symm
  · rw [rd 55 (by decide), u, if_neg (by omega), if_neg (by omega), (s3 s (by omega) (by omega)).2.2.1]; exact (q.2.2.1 s hs).1
  · rw [rd 55 (by decide), u, if_neg (by omega), if_neg (by omega), (s3 s (by omega) (by omega)).2.2.2]; exact (g.2.2.1.2.2 s).symm
  · rw [rd 55 (by decide), u, if_neg (by omega), if_neg (by omega), (z55 (25 + s) (by omega)).2.1 (by omega)]; exact (g.2.2.1.2.1 s).symm
  · rw [rd 55 (by decide), u, if_neg (by omega), if_neg (by omega), (z55 (32 + s) (by omega)).2.1 (by omega)]; exact (g.2.2.1.1 s).symm
  · rw [jUp_s (by decide), jUp_s (by decide), jUp_at]
  · rw [jUp_s (by decide), jUp_at]
  · rw [jUp_at]
  · intro k ad s w
    obtain ⟨w1, w2, w3, w4⟩ := w
    have ht : ∀ x s', (k = 11 ∧ s = s' → False) → ∀ N : jM, jUp N 11 (0, 0) s' x k ad s = N k ad s := by
      intro x s' z N
      unfold jUp
      rw [if_neg (fun y => z ⟨y.1, y.2.2⟩)]
    rw [ht _ _ (fun z => w4 ⟨z.1, by omega⟩), ht _ _ (fun z => w4 ⟨z.1, by omega⟩), ht _ _ (fun z => w4 ⟨z.1, by omega⟩)]
    unfold tkF
    by_cases h1 : k = 12 ∧ ad.2 = 0 ∧ tkS ad.1
    · rw [if_pos h1]
      obtain ⟨rfl, h2, h3⟩ := h1
      obtain ⟨a1, a2⟩ := ad
      obtain rfl : a2 = 0 := h2
      have h4 : a1 ≠ 55 := fun z => w3 ⟨rfl, by rw [z]⟩
      rw [ene a1 h4]
      unfold tkS at h3
      unfold scr at w1
      unfold fS at w2
      dsimp only at h3 w1 w2 ⊢
      rcases h3 with rfl | rfl | rfl | rfl | rfl | rfl | rfl | rfl <;> first | omega | skip
    · rw [if_neg h1]
  · have e0 : M = tkF M (fun f => M 12 (f, 0)) := tkF_self.symm
    have st : jE d 140 0 [some (.inr (.inr (some (11, (0, 0))))), none] [] (n, ([], M)) v σ' ↔ jE d 140 26 [some (.inr (.inr (some (11, (0, 0))))), some (.inl (jn 0))] [] (n, ([], tkF M c1)) v σ' := by
      rw [← hc1]
      conv => lhs; rw [e0]
      simp only [s140_0, s140_1, s140_4, s140_5, s140_6, s140_9, s140_10, s140_11, s140_12, s140_13, s140_16, s140_17, s140_18, s140_21, s140_22, s140_23, s140_24, s140_25, jm_42, jm_46, jk0, jk1, ji0 (show 0 < 2 by decide), ji1 (show 1 < 2 by decide), mC_up, tkF_at (show tkS 42 by decide), tkF_at (show tkS 46 by decide), tkF_mC (show tkS 42 by decide), tkF_mC (show tkS 46 by decide), nset_ne (show (46 : Nat) ≠ 42 by decide)]
      exact Iff.rfl
    rw [st, p4, s140_45, s140_46]
    refine (q4 v σ').trans ?_
    rw [s140_130, s140_131]
    refine (s4 v σ').trans ?_
    rw [← hc5]
    simp only [s140_199, s140_200, s140_203, s140_205, s140_206, s140_209, s140_210, s140_211, s140_214, s140_216, s140_217, s140_220, s140_221, s140_222, s140_223, s140_226, s140_227, s140_228, s140_231, s140_232, s140_233, s140_236, jm_55, jk7, jk8, ji7 (show 7 < 39 by decide), ji8 (show 8 < 39 by decide), mC_up, tkF_at (show tkS 55 by decide), tkF_mC (show tkS 55 by decide), tkF_k (show (11 : Nat) ≠ 12 by decide), nset_at, nset_nset]
/-- fault, lay -/
theorem m135 (w : I5 L M) (H : jH) : ∃ N, iEq M N ∧ ∀ (v : Option jV) (σ' : jS), jE (d + 20) 135 0 (lm []) [] (n, ([], M)) v σ' ↔ v = some (.inl (rdRun (tx (M 12 (30, 0)) L) L 200 0 (hNew H)).1) ∧ σ' = (n, ([], N)) := by
  obtain ⟨N, y1, y2⟩ := r134 (d := d + 14) (n := n) w H
  refine ⟨N, y1.1, fun v σ' => ?_⟩
  simp only [lm, List.map_nil, s135_0, s135_1, s135_4, y2, jcall_eq, Option.toList_some, Option.toList_none, List.cons_append, List.nil_append]
theorem m141 (w : I5 L M) (H : jH) : ∃ N, iEq M N ∧ ((¬ ((rdRun (tx (M 12 (30, 0)) L) L 200 0 (hNew H)).1 = -4 ∧ ¬ (rdRun (tx (M 12 (30, 0)) L) L 200 0 (hNew H)).2.2 10 10 = 0 ∧ ¬ (rdRun (tx (M 12 (30, 0)) L) L 200 0 (hNew H)).2.2 10 11 = 0) ∧ ∀ (v : Option jV) (σ' : jS), jE (d + 20) 141 0 (lm []) [] (n, ([], M)) v σ' ↔ v = some (.inl (-2)) ∧ σ' = (n, ([], N))) ∨
    (((rdRun (tx (M 12 (30, 0)) L) L 200 0 (hNew H)).1 = -4 ∧ ¬ (rdRun (tx (M 12 (30, 0)) L) L 200 0 (hNew H)).2.2 10 10 = 0 ∧ ¬ (rdRun (tx (M 12 (30, 0)) L) L 200 0 (hNew H)).2.2 10 11 = 0) ∧ ∃ a b l N2, (hTd a b l (rdRun (tx (M 12 (30, 0)) L) L 200 0 (hNew H)).2.2 ∧ 1 ≤ a ∧ 1 ≤ b) ∧ rS a b N2 (rdRun (tx (M 12 (30, 0)) L) L 200 0 (hNew H)).2.2 ∧ rD a b l (N2 12 (55, 0)) (rdRun (tx (M 12 (30, 0)) L) L 200 0 (hNew H)).2.2 ∧ (N2 11 (0, 0) 17 = 0 ∧ N2 11 (0, 0) 19 = 0 ∧ N2 11 (0, 0) 29 = 0) ∧ eqO lyK N N2 ∧ ∀ (v : Option jV) (σ' : jS), jE (d + 20) 141 0 (lm []) [] (n, ([], M)) v σ' ↔ v = some (.inl ((rdRun (tx (M 12 (30, 0)) L) L 200 0 (hNew H)).2.2 10 11)) ∧ σ' = (n, ([], N2)))) := by
  obtain ⟨N, y1, y2⟩ := r134 (d := d + 14) (n := n) w H
  generalize rdRun (tx (M 12 (30, 0)) L) L 200 0 (hNew H) = R at y1 y2 ⊢
  refine ⟨N, y1.1, ?_⟩
  have hd : ∀ (v : Option jV) (σ' : jS), jE (d + 20) 141 0 (lm []) [] (n, ([], M)) v σ' ↔ if ¬ R.1 = -4 then v = some (.inl (-2)) ∧ σ' = (n, ([], N)) else if N 12 (42, 0) 1 = 0 then v = some (.inl (-2)) ∧ σ' = (n, ([], N)) else if ¬ N 12 (46, 0) 1 = 0 then jE (d + 20) 141 30 [some (.inr (.inr (some (11, (0, 0)))))] [] (n, ([], N)) v σ' else v = some (.inl (-2)) ∧ σ' = (n, ([], N)) := by
    intro v σ'
    simp only [lm, List.map_nil, s141_0, s141_1, s141_4, s141_6, s141_9, s141_10, s141_13, s141_14, s141_15, s141_18, s141_19, s141_22, s141_23, s141_24, s141_27, s141_29, y2, jcall_eq, Option.toList_some, Option.toList_none, List.cons_append, List.nil_append, jm_42, jm_46, jk1, ji1 (show 1 < 2 by decide)]
  by_cases h1 : R.1 = -4
  · obtain ⟨a, b, l, g, q⟩ := y1.2.resolve_left (fun z => z h1)
    have g1 := g.1
    rw [q.1.1, q.1.2.1] at hd
    rw [g.2.1.1, g.2.1.2.1]
    by_cases h2 : jn a = 0
    · left
      refine ⟨fun z => z.2.1 h2, fun v σ' => ?_⟩
      rw [hd, if_neg (fun z => z h1), if_pos h2]
    · by_cases h3 : jn b = 0
      · left
        refine ⟨fun z => z.2.2 h3, fun v σ' => ?_⟩
        rw [hd, if_neg (fun z => z h1), if_neg h2, if_neg (fun z => z h3)]
      · right
        obtain ⟨N2, r1, r2, r3, r4, r5⟩ := r140 (d := d + 19) (n := n) g q
        refine ⟨⟨h1, h2, h3⟩, a, b, l, N2, ⟨g, Nat.pos_of_ne_zero (fun z => h2 (by rw [z]; rfl)), Nat.pos_of_ne_zero (fun z => h3 (by rw [z]; rfl))⟩, r1, r2, r3, r4, fun v σ' => ?_⟩
        rw [hd, if_neg (fun z => z h1), if_neg h2, if_pos h3]
        simp only [s141_30, s141_31, s141_34, s141_35, s141_38, s141_39, s141_40, r5, jcall_eq, Option.toList_some, Option.toList_none, List.cons_append, List.nil_append, jm_46, jk0, ji0 (show 0 < 2 by decide), r1.1.2]
  · left
    refine ⟨fun z => h1 z.1, fun v σ' => ?_⟩
    rw [hd, if_pos h1]
end JRL
