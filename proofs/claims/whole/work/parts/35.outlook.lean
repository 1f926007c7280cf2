/-! what would be: trial house 14, night 10 -/
abbrev hPass (h : Nat → Nat → Int32) : Prop := nCarry h (nUnfold h 0)
theorem sN_R {M : jM} {q f i : Nat} {nv : Nat → Nat → Int32} (h : 21 ≤ f) : sN M q nv 12 (f, i) = M 12 (f, i) := by
  funext s
  unfold sN
  rw [if_neg (fun z => by have := z.2.2.1.2; simp at this; omega), if_neg (fun z => by cases z.1)]
def mO (M : jM) (a b : Int32) : jM := fun k x s => if k = 5 ∧ x = (0, 0) ∧ s = 2 then a else if k = 5 ∧ x = (0, 0) ∧ s = 3 then b else M k x s
theorem mO_self (M : jM) : mO M (M 5 (0, 0) 2) (M 5 (0, 0) 3) = M := by
  funext k x s
  unfold mO
  by_cases h1 : k = 5 ∧ x = (0, 0) ∧ s = 2
  · rw [if_pos h1, h1.1, h1.2.1, h1.2.2]
  · rw [if_neg h1]
    by_cases h2 : k = 5 ∧ x = (0, 0) ∧ s = 3
    · rw [if_pos h2, h2.1, h2.2.1, h2.2.2]
    · rw [if_neg h2]
theorem mO_a (M : jM) (a b x : Int32) : jUp (mO M a b) 5 (0, 0) 2 x = mO M x b := by
  funext k y s
  unfold jUp mO
  by_cases h1 : k = 5 ∧ y = (0, 0) ∧ s = 2
  · rw [if_pos h1, if_pos h1]
  · rw [if_neg h1, if_neg h1, if_neg h1]
theorem mO_b (M : jM) (a b x : Int32) : jUp (mO M a b) 5 (0, 0) 3 x = mO M a x := by
  funext k y s
  unfold jUp mO
  by_cases h1 : k = 5 ∧ y = (0, 0) ∧ s = 3
  · rw [if_pos h1, if_neg (by omega), if_pos h1]
  · rw [if_neg h1]
    by_cases h2 : k = 5 ∧ y = (0, 0) ∧ s = 2
    · rw [if_pos h2, if_pos h2]
    · rw [if_neg h2, if_neg h2, if_neg h1, if_neg h1]
theorem mO_2 (M : jM) (a b : Int32) : mO M a b 5 (0, 0) 2 = a := if_pos ⟨rfl, rfl, rfl⟩
theorem mO_3 (M : jM) (a b : Int32) : mO M a b 5 (0, 0) 3 = b := by
  unfold mO
  rw [if_neg (by decide), if_pos ⟨rfl, rfl, rfl⟩]
theorem mO_k {M : jM} {a b : Int32} {k : Nat} (h : k ≠ 5) : mO M a b k = M k := by
  funext y s
  unfold mO
  rw [if_neg (fun z => h z.1), if_neg (fun z => h z.1)]
theorem gH_mO (M : jM) (a b : Int32) (i : Nat) : gH (mO M a b) i = gH M i := by
  unfold gH
  rw [mO_k (by decide), mO_k (by decide)]
theorem up_sH {M : jM} {i k s : Nat} {a : jA} {x : Int32} {h : Nat → Nat → Int32} (h1 : k ≠ 12) (h2 : k ≠ 1) : jUp (sH M i h) k a s x = sH (jUp M k a s x) i h := by
  funext k' a' s'
  unfold jUp sH
  by_cases e : k' = k ∧ a' = a ∧ s' = s
  · rw [if_pos e, if_neg (by omega), if_neg (by omega)]
    exact (if_pos e).symm
  · rw [if_neg e]
    by_cases e1 : k' = 12 ∧ a'.2 = i ∧ a'.1 < 10 ∧ s' < 7
    · rw [if_pos e1, if_pos e1]
    · rw [if_neg e1, if_neg e1]
      by_cases e2 : k' = 1 ∧ a' = (0, i) ∧ (10 ≤ s' ∧ s' < 16)
      · rw [if_pos e2, if_pos e2]
      · rw [if_neg e2, if_neg e2]
        exact (if_neg e).symm
theorem up_sN {M : jM} {q k s : Nat} {a : jA} {x : Int32} {h : Nat → Nat → Int32} (h1 : k ≠ 12) (h2 : k ≠ 4) : jUp (sN M q h) k a s x = sN (jUp M k a s x) q h := by
  funext k' a' s'
  unfold jUp sN
  by_cases e : k' = k ∧ a' = a ∧ s' = s
  · rw [if_pos e, if_neg (by omega), if_neg (by omega)]
    exact (if_pos e).symm
  · rw [if_neg e]
    by_cases e1 : k' = 12 ∧ a'.2 = q ∧ (16 ≤ a'.1 ∧ a'.1 < 21) ∧ s' < 7
    · rw [if_pos e1, if_pos e1]
    · rw [if_neg e1, if_neg e1]
      by_cases e2 : k' = 4 ∧ a' = (0, q) ∧ s' = 5
      · rw [if_pos e2, if_pos e2]
      · rw [if_neg e2, if_neg e2]
        exact (if_neg e).symm
theorem nUnfold_rg (M : jM) (i q f : Nat) (h nv : Nat → Nat → Int32) (hf : f < 5) (x : Int32) : rg 7 (sH (sN M q nv) i h 12 (16 + f, q)) x = rg 7 (nv f) x := by
  rw [sH_N (by omega)]
  exact rg7 (fun s hs => sN_row hf hs) x
theorem sT_31 (M : jM) (i q j : Nat) (h nv : Nat → Nat → Int32) : sH (sN M q nv) i h 12 (31, j) = M 12 (31, j) := by
  rw [sH_N (by decide), sN_R (by decide)]
theorem sT_32 (M : jM) (i q j : Nat) (h nv : Nat → Nat → Int32) : sH (sN M q nv) i h 12 (32, j) = M 12 (32, j) := by
  rw [sH_N (by decide), sN_R (by decide)]
theorem sT_8 (M : jM) (i q : Nat) (h nv : Nat → Nat → Int32) : sH (sN M q nv) i h 8 = M 8 := by
  rw [sH_k (by decide) (by decide), sN_k _ _ _ (by decide) (by decide)]
theorem sT_1 (M : jM) (q : Nat) (h nv : Nat → Nat → Int32) : sH (sN M q nv) 14 h 1 (0, 1) = M 1 (0, 1) := by
  rw [sH_other (by decide), sN_1]
theorem sT_gH (M : jM) (q : Nat) (h nv : Nat → Nat → Int32) : gH (sH (sN M q nv) 14 h) 1 = gH M 1 := by
  rw [gH_other (by decide), gH_sN]
theorem sT_12 (M : jM) (q f : Nat) (h nv : Nat → Nat → Int32) (hf : f < 16) : sH (sN M q nv) 14 h 12 (f, 1) = M 12 (f, 1) := by
  rw [sH_other (by decide), sN_H _ _ _ hf]
def hClaq1 (set : Int32) (s : Nat) (h : Nat → Nat → Int32) : Nat → Nat → Int32 := if set >>> (jn s &&& 31) &&& 1 = 0 then h else nset h 5 (rs 7 (h 5) (jn s) 3)
def hClaq (H : Nat → Nat → Int32) (set : Int32) : Nat → Nat → Int32 := jfor (hClaq1 set) (hS H) 0 H
def fcStep (H : Nat → Nat → Int32) (k : Nat) (p : Int32 × Int32) : Int32 × Int32 := if bc (jn k) < p.2 then (if hPass (hClaq H (jn k)) then (jn k, bc (jn k)) else p) else p
def hSets (H : Nat → Nat → Int32) : Nat := (1 <<< (H 10 11 &&& 31) : Int32).toNatClampNeg
def fkRun (H : Nat → Nat → Int32) : Nat → Nat → Int32
  | 0, _ => -4
  | f + 1, k => if hBilled H (jn k) then (if hPass (hStrike H (jn k)) then fkRun H f (k + 1) else jn k) else fkRun H f (k + 1)
def hSc0 (h : Nat → Nat → Int32) : Nat := (h 10 10).toNatClampNeg
def naRun : Nat → Nat → (Nat → Nat → Int32) → Nat
  | 0, k, _ => k
  | f + 1, k, h => if hPass h then naRun f (k + 1) (hTire h) else k
def taHouse (H : Nat → Nat → Int32) (x : Int32) (p : Nat) : Nat → Nat → Int32 := if hPass (hMount H x p) then hBindAll (nUnfold (hMount H x p) 0 3) (hMount H x p) else hMount H x p
def taStep (H : Nat → Nat → Int32) (x : Int32) (p : Nat) (o : Int32 × Int32) : Int32 × Int32 := if o.2 < hBnd (taHouse H x p) then (10 * x + jn p, hBnd (taHouse H x p)) else o
def faStep (H : Nat → Nat → Int32) (k : Nat) (o : Int32 × Int32) : Int32 × Int32 := if hBilled H (jn k) then o else jfor (fun p o => taStep H (jn k) p o) (hB H + 1) 0 o
def fpStep (M : jM) (f : Nat) (S : Int32) (k : Nat) (o : Int32 × (Nat → Nat → Int32)) : Int32 × (Nat → Nat → Int32) :=
  (if sgOk M S (rg 7 (nUnfold (nset o.2 f (rs 7 (o.2 f) S (jn k))) 0 1) S) then o.1 ||| 1 <<< (jn k &&& 31) else o.1, nset o.2 f (rs 7 (o.2 f) S (jn k)))
section JO
variable {d n i q : Nat} {v : Option jV} {σ' : jS} {M : jM} {x y z : Int32} {h nv : Nat → Nat → Int32}
/-- Outlook.trialPasses -/
theorem c57 : jE (d + 4) 57 0 [some (.inr (.inr (some (5, (0, 0)))))] [] (n, ([], sH (sN M 10 nv) 14 h)) v σ' ↔ v = some (.inl (jb (hPass h))) ∧ σ' = (n, ([], sH (sN M 10 (nUnfold h 0)) 14 h)) := by
  simp only [s57_0, s57_1, s57_4, s57_5, s57_8, s57_9, s57_12, s57_13, s57_16, s57_17, s57_20, s57_23, c41, c43, jcall_eq, Option.toList_some, Option.toList_none, List.cons_append, List.nil_append, sT_comm, sN_sN, nUnfold_T, nCarry_T]
  exact ⟨fun w => w.2, fun w => ⟨jb_01 _, w⟩⟩
/-- Outlook.trialAgrees -/
theorem c56 : jE (d + 4) 56 0 [some (.inr (.inr (some (5, (0, 0))))), some (.inr (.inr (some (8, (0, 0))))), some (.inl x)] [] (n, ([], sH (sN M 10 nv) 14 h)) v σ' ↔ v = some (.inl (jb (sgOk M x (rg 7 (nUnfold h 0 1) x)))) ∧ σ' = (n, ([], sH (sN M 10 (nUnfold h 0)) 14 h)) := by
  have e := fun x : Int32 => nUnfold_rg M 14 10 1 h (nUnfold h 0) (by decide) x
  simp only [s56_0, s56_1, s56_4, s56_5, s56_8, s56_9, s56_12, s56_13, s56_14, s56_15, s56_18, s56_21, s56_22, s56_25, s56_28, c41, c59, c77, jcall_eq, Option.toList_some, Option.toList_none, List.cons_append, List.nil_append, jl_0, jl_1, jl_2, jl_3, jl_4, jl_5, jl_6, jl_7, jl_8, jl_9, jl_16, jl_17, jl_18, jl_19, jl_20, sT_comm, sN_sN, nUnfold_T, e, sT_31, sT_32, sT_8]
  exact ⟨fun w => w.2, fun w => ⟨jb_01 _, w⟩⟩
theorem c49_in : ∀ (f k : Nat) (h : Nat → Nat → Int32) (a2 a3 : Option jV), k + f = hS (gH M 1) ∨ (f = 0 ∧ hS (gH M 1) ≤ k ∧ k < 2147483648) → (jE (d + 5) 49 43 [some (.inr (.inr (some (5, (0, 0))))), some (.inr (.inr (some (1, (0, 1))))), a2, a3, some (.inl x), some (.inl (jn k))] [] (n, ([], sH (sN M 10 nv) 14 h)) v σ' ↔ jE (d + 5) 49 81 [some (.inr (.inr (some (5, (0, 0))))), some (.inr (.inr (some (1, (0, 1))))), a2, a3, some (.inl x), some (.inl (jn (k + f)))] [] (n, ([], sH (sN M 10 nv) 14 (jfor (hClaq1 x) f k h))) v σ') := by
  intro f
  have hy := jx_lt (M 1 (0, 1) 11)
  have he : hS (gH M 1) = (M 1 (0, 1) 11).toNatClampNeg := rfl
  induction f with
  | zero =>
    intro k h a2 a3 hk
    rw [s49_43, s49_45, s49_46, s49_49, sT_1, if_pos (show M 1 (0, 1) 11 ≤ jn k from (jn_ge (by omega)).mpr (by omega))]
    rfl
  | succ f ih =>
    intro k h a2 a3 hk
    rw [s49_43, s49_45, s49_46, s49_49, sT_1, if_neg (show ¬ M 1 (0, 1) 11 ≤ jn k from fun z => absurd ((jn_ge (by omega)).mp z) (by omega))]
    simp only [s49_52, s49_54, s49_56, s49_59, s49_62, s49_63, s49_66, s49_69, s49_71, s49_72, s49_75, c60, c121, jcall_eq, Option.toList_some, Option.toList_none, List.cons_append, List.nil_append, jl_0, jl_1, jl_2, jl_3, jl_4, jl_5, jl_6, jl_7, jl_8, jl_9, jl_16, jl_17, jl_18, jl_19, jl_20, sH_g0, sH_g1, sH_g2, sH_g3, sH_g4, sH_g5, sH_g6, sH_g7, sH_g8, sH_g9, sH_p0, sH_p1, sH_p2, sH_p3, sH_p4, sH_p5, sH_p6, sH_p7, sH_p8, sH_p9, sH_s10, sH_s11, sH_s12, sH_s13, sH_s14, sH_s15, sH_u10, sH_u11, sH_u12, sH_u13, sH_u14, sH_u15, jb_0, Classical.not_not]
    rw [s49_78, s49_78, jn_1, show k + (f + 1) = k + 1 + f by omega, jfor]
    unfold hClaq1
    by_cases h1 : x >>> (jn k &&& 31) &&& 1 = 0
    · rw [if_pos h1, if_pos h1]
      exact ih (k + 1) h a2 a3 (by omega)
    · rw [if_neg h1, if_neg h1]
      exact ih (k + 1) _ a2 a3 (by omega)
theorem c49_in0 {a2 a3 : Option jV} : jE (d + 5) 49 43 [some (.inr (.inr (some (5, (0, 0))))), some (.inr (.inr (some (1, (0, 1))))), a2, a3, some (.inl x), some (.inl 0)] [] (n, ([], sH (sN M 10 nv) 14 h)) v σ' ↔ jE (d + 5) 49 81 [some (.inr (.inr (some (5, (0, 0))))), some (.inr (.inr (some (1, (0, 1))))), a2, a3, some (.inl x), some (.inl (jn (0 + hS (gH M 1))))] [] (n, ([], sH (sN M 10 nv) 14 (jfor (hClaq1 x) (hS (gH M 1)) 0 h))) v σ' := c49_in (hS (gH M 1)) 0 h a2 a3 (by omega)
theorem c49_loop : ∀ (f k : Nat) (p : Int32 × Int32) (h nv : Nat → Nat → Int32) (a5 : Option jV), k + f = hSets (gH M 1) ∨ (f = 0 ∧ hSets (gH M 1) ≤ k ∧ k < 2147483648) → ∃ h' nv', jE (d + 5) 49 9 [some (.inr (.inr (some (5, (0, 0))))), some (.inr (.inr (some (1, (0, 1))))), some (.inl p.1), some (.inl p.2), some (.inl (jn k)), a5] [] (n, ([], sH (sN M 10 nv) 14 h)) (some (.inl (jfor (fcStep (gH M 1)) f k p).1)) (n, ([], sH (sN M 10 nv') 14 h')) := by
  intro f
  have hy := jx_lt (1 <<< (M 1 (0, 1) 11 &&& 31) : Int32)
  have he : hSets (gH M 1) = (1 <<< (M 1 (0, 1) 11 &&& 31) : Int32).toNatClampNeg := rfl
  induction f with
  | zero =>
    intro k p h nv a5 hk
    refine ⟨h, nv, ?_⟩
    rw [s49_9, s49_11, s49_12, s49_13, s49_16, s49_17, sT_1, if_pos (show (1 <<< (M 1 (0, 1) 11 &&& 31) : Int32) ≤ jn k from (jn_ge (by omega)).mpr (by omega)), s49_106, s49_107]
    exact ⟨rfl, rfl⟩
  | succ f ih =>
    intro k p h nv a5 hk
    have hd : ∀ (a5 : Option jV) (h nv : Nat → Nat → Int32) (v : Option jV) (σ' : jS), (jE (d + 5) 49 9 [some (.inr (.inr (some (5, (0, 0))))), some (.inr (.inr (some (1, (0, 1))))), some (.inl p.1), some (.inl p.2), some (.inl (jn k)), a5] [] (n, ([], sH (sN M 10 nv) 14 h)) v σ' ↔ if bc (jn k) < p.2 then (if hPass (hClaq (gH M 1) (jn k)) then jE (d + 5) 49 9 [some (.inr (.inr (some (5, (0, 0))))), some (.inr (.inr (some (1, (0, 1))))), some (.inl (jn k)), some (.inl (bc (jn k))), some (.inl (jn (k + 1))), some (.inl (jn (0 + hS (gH M 1))))] [] (n, ([], sH (sN M 10 (nUnfold (hClaq (gH M 1) (jn k)) 0)) 14 (hClaq (gH M 1) (jn k)))) v σ' else jE (d + 5) 49 9 [some (.inr (.inr (some (5, (0, 0))))), some (.inr (.inr (some (1, (0, 1))))), some (.inl p.1), some (.inl p.2), some (.inl (jn (k + 1))), some (.inl (jn (0 + hS (gH M 1))))] [] (n, ([], sH (sN M 10 (nUnfold (hClaq (gH M 1) (jn k)) 0)) 14 (hClaq (gH M 1) (jn k)))) v σ') else jE (d + 5) 49 9 [some (.inr (.inr (some (5, (0, 0))))), some (.inr (.inr (some (1, (0, 1))))), some (.inl p.1), some (.inl p.2), some (.inl (jn (k + 1))), a5] [] (n, ([], sH (sN M 10 nv) 14 h)) v σ') := by
      intro a5 h nv v σ'
      rw [s49_9, s49_11, s49_12, s49_13, s49_16, s49_17, sT_1, if_neg (show ¬ (1 <<< (M 1 (0, 1) 11 &&& 31) : Int32) ≤ jn k from fun z => absurd ((jn_ge (by omega)).mp z) (by omega))]
      simp only [s49_20, s49_22, s49_25, s49_26, s49_29, s49_32, s49_33, s49_36, s49_37, s49_40, s49_41, c195, c9 (show (1 : Nat) ≠ 14 by decide), jcall_eq, Option.toList_some, Option.toList_none, List.cons_append, List.nil_append, sT_gH, sH_sH]
      simp only [c49_in0, s49_81, s49_82, s49_85, s49_88, s49_91, s49_93, s49_94, s49_96, s49_99, s49_100, c57, c195, jcall_eq, Option.toList_some, Option.toList_none, List.cons_append, List.nil_append, jb_0]
      rw [s49_103, s49_103, s49_103, jn_1]
      by_cases h1 : bc (jn k) < p.2
      · rw [if_pos h1, if_pos h1]
        by_cases h2 : hPass (hClaq (gH M 1) (jn k))
        · rw [if_pos h2]
          exact iff_of_eq (if_pos (fun w => w h2))
        · rw [if_neg h2]
          exact iff_of_eq (if_neg (fun w => w h2))
      · rw [if_neg h1, if_neg h1]
    simp only [hd, jfor]
    rw [show fcStep (gH M 1) k p = if bc (jn k) < p.2 then (if hPass (hClaq (gH M 1) (jn k)) then (jn k, bc (jn k)) else p) else p from rfl]
    by_cases h1 : bc (jn k) < p.2
    · simp only [if_pos h1]
      by_cases h2 : hPass (hClaq (gH M 1) (jn k))
      · simp only [if_pos h2]
        exact ih (k + 1) (jn k, bc (jn k)) _ _ _ (by omega)
      · simp only [if_neg h2]
        exact ih (k + 1) p _ _ _ (by omega)
    · simp only [if_neg h1]
      exact ih (k + 1) p _ _ _ (by omega)
def fcBest (H : Nat → Nat → Int32) : Int32 := (jfor (fcStep H) (hSets H) 0 (-4, 8)).1
/-- Outlook.fewestClaques -/
theorem c49 : ∃ h' nv', jE (d + 5) 49 0 [some (.inr (.inr (some (5, (0, 0))))), some (.inr (.inr (some (1, (0, 1))))), none, none, none, none] [] (n, ([], M)) (some (.inl (fcBest (gH M 1)))) (n, ([], sH (sN M 10 nv') 14 h')) := by
  obtain ⟨h', nv', e⟩ := c49_loop (d := d) (n := n) (M := M) (hSets (gH M 1)) 0 (-4, 8) (gH M 14) (gN M 10) none (by omega)
  refine ⟨h', nv', ?_⟩
  rw [sN_self, sH_self] at e
  simp only [s49_0, s49_2, s49_3, s49_5, s49_6, s49_7]
  exact e
theorem c50_loop {l : Nat} (hb : gH M 1 10 12 = jn l) (hl : l ≤ 7) : ∀ (f k : Nat) (h nv : Nat → Nat → Int32), k + f = hSc0 (gH M 1) ∨ (f = 0 ∧ hSc0 (gH M 1) ≤ k ∧ k < 2147483648) → ∃ h' nv', jE (d + 5) 50 20 [some (.inr (.inr (some (5, (0, 0))))), some (.inr (.inr (some (1, (0, 1))))), some (.inl (jn k))] [] (n, ([], sH (sN M 10 nv) 14 h)) (some (.inl (fkRun (gH M 1) f k))) (n, ([], sH (sN M 10 nv') 14 h')) := by
  intro f
  have hy := jx_lt (M 1 (0, 1) 10)
  have he : hSc0 (gH M 1) = (M 1 (0, 1) 10).toNatClampNeg := rfl
  induction f with
  | zero =>
    intro k h nv hk
    refine ⟨h, nv, ?_⟩
    rw [s50_20, s50_21, s50_22, s50_25, sT_1, if_pos (show M 1 (0, 1) 10 ≤ jn k from (jn_ge (by omega)).mpr (by omega)), s50_70, s50_72]
    exact ⟨rfl, rfl⟩
  | succ f ih =>
    intro k h nv hk
    have e4 : ∀ h nv, rfind 7 (sH (sN M 10 nv) 14 h 12 (4, 1)) (jn k) (M 1 (0, 1) 12).toNatClampNeg 0 = hOnBill (gH M 1) (jn k) := fun h nv => by rw [sT_12 _ _ _ _ _ (by decide)]; rfl
    rw [fkRun]
    by_cases h1 : hBilled (gH M 1) (jn k)
    · rw [if_pos h1]
      have hs : ∀ (nv : Nat → Nat → Int32) (v : Option jV) (σ' : jS), jE (d + 4) 18 0 [some (.inr (.inr (some (1, (0, 14))))), some (.inl (jn k))] [] (n, ([], sH (sN M 10 nv) 14 (gH M 1))) v σ' ↔ v = none ∧ σ' = (n, ([], sH (sN M 10 nv) 14 (hStrike (gH M 1) (jn k)))) := fun nv v σ' => b18 (d := d + 1) hb hl h1
      by_cases h2 : hPass (hStrike (gH M 1) (jn k))
      · rw [if_pos h2]
        obtain ⟨h', nv', e⟩ := ih (k + 1) (hStrike (gH M 1) (jn k)) (nUnfold (hStrike (gH M 1) (jn k)) 0) (by omega)
        refine ⟨h', nv', ?_⟩
        rw [s50_20, s50_21, s50_22, s50_25, sT_1, if_neg (show ¬ M 1 (0, 1) 10 ≤ jn k from fun z => absurd ((jn_ge (by omega)).mp z) (by omega))]
        simp only [s50_28, s50_29, s50_30, s50_33, s50_36, s50_39, s50_40, s50_43, s50_44, s50_47, s50_48, s50_51, s50_52, s50_55, s50_56, s50_59, s50_62, s50_63, s50_64, c16, c9 (show (1 : Nat) ≠ 14 by decide), c57, hs, jcall_eq, Option.toList_some, Option.toList_none, List.cons_append, List.nil_append, sT_gH, sT_1, sH_sH, e4, jb_0, Classical.not_not]
        rw [if_pos h1, if_pos h2, s50_67, jn_1]
        exact e
      · rw [if_neg h2]
        refine ⟨hStrike (gH M 1) (jn k), nUnfold (hStrike (gH M 1) (jn k)) 0, ?_⟩
        rw [s50_20, s50_21, s50_22, s50_25, sT_1, if_neg (show ¬ M 1 (0, 1) 10 ≤ jn k from fun z => absurd ((jn_ge (by omega)).mp z) (by omega))]
        simp only [s50_28, s50_29, s50_30, s50_33, s50_36, s50_39, s50_40, s50_43, s50_44, s50_47, s50_48, s50_51, s50_52, s50_55, s50_56, s50_59, s50_62, s50_63, s50_64, c16, c9 (show (1 : Nat) ≠ 14 by decide), c57, hs, jcall_eq, Option.toList_some, Option.toList_none, List.cons_append, List.nil_append, sT_gH, sT_1, sH_sH, e4, jb_0, Classical.not_not]
        rw [if_pos h1, if_neg h2]
        exact ⟨trivial, trivial⟩
    · rw [if_neg h1]
      obtain ⟨h', nv', e⟩ := ih (k + 1) h nv (by omega)
      refine ⟨h', nv', ?_⟩
      rw [s50_20, s50_21, s50_22, s50_25, sT_1, if_neg (show ¬ M 1 (0, 1) 10 ≤ jn k from fun z => absurd ((jn_ge (by omega)).mp z) (by omega))]
      simp only [s50_28, s50_29, s50_30, s50_33, s50_36, s50_64, c16, jcall_eq, Option.toList_some, Option.toList_none, List.cons_append, List.nil_append, sT_1, e4, jb_0]
      rw [if_neg (fun w => w h1), s50_67, jn_1]
      exact e
def fkCut (H : Nat → Nat → Int32) : Int32 := if hPass H then fkRun H (hSc0 H) 0 else -4
/-- Outlook.fatalCut -/
theorem c50 {l : Nat} (hb : gH M 1 10 12 = jn l) (hl : l ≤ 7) : ∃ h' nv', jE (d + 5) 50 0 [some (.inr (.inr (some (5, (0, 0))))), some (.inr (.inr (some (1, (0, 1))))), none] [] (n, ([], M)) (some (.inl (fkCut (gH M 1)))) (n, ([], sH (sN M 10 nv') 14 h')) := by
  have h0 : ∀ (v : Option jV) (σ' : jS), jE (d + 5) 50 0 [some (.inr (.inr (some (5, (0, 0))))), some (.inr (.inr (some (1, (0, 1))))), none] [] (n, ([], sH (sN M 10 (gN M 10)) 14 (gH M 14))) v σ' ↔ if hPass (gH M 1) then jE (d + 5) 50 20 [some (.inr (.inr (some (5, (0, 0))))), some (.inr (.inr (some (1, (0, 1))))), some (.inl 0)] [] (n, ([], sH (sN M 10 (nUnfold (gH M 1) 0)) 14 (gH M 1))) v σ' else (v = some (.inl (-4)) ∧ σ' = (n, ([], sH (sN M 10 (nUnfold (gH M 1) 0)) 14 (gH M 1)))) := by
    intro v σ'
    simp only [s50_0, s50_1, s50_4, s50_5, s50_8, s50_9, s50_12, s50_15, s50_17, s50_18, s50_19, c9 (show (1 : Nat) ≠ 14 by decide), c57, jcall_eq, Option.toList_some, Option.toList_none, List.cons_append, List.nil_append, sT_gH, sH_sH, jb_0]
    by_cases h1 : hPass (gH M 1)
    · rw [if_pos h1]
      exact iff_of_eq (if_pos (fun w => w h1))
    · rw [if_neg h1]
      exact iff_of_eq (if_neg (fun w => w h1))
  rw [sN_self, sH_self] at h0
  unfold fkCut
  by_cases h1 : hPass (gH M 1)
  · rw [if_pos h1]
    obtain ⟨h', nv', e⟩ := c50_loop (d := d) (n := n) hb hl (hSc0 (gH M 1)) 0 (gH M 1) (nUnfold (gH M 1) 0) (by omega)
    exact ⟨h', nv', (h0 _ _).mpr (by rw [if_pos h1]; exact e)⟩
  · rw [if_neg h1]
    exact ⟨_, _, (h0 _ _).mpr (by rw [if_neg h1]; exact ⟨rfl, rfl⟩)⟩
theorem c51_loop : ∀ (f k : Nat) (h nv : Nat → Nat → Int32), k + f = 30 → ∃ h' nv', jE (d + 5) 51 10 [some (.inr (.inr (some (5, (0, 0))))), some (.inr (.inr (some (1, (0, 1))))), some (.inl (jn k))] [] (n, ([], sH (sN M 10 nv) 14 h)) (some (.inl (jn (naRun f k h)))) (n, ([], sH (sN M 10 nv') 14 h')) := by
  intro f
  induction f with
  | zero =>
    intro k h nv hk
    refine ⟨h, nv, ?_⟩
    rw [s51_10, s51_11, s51_13, if_pos (show (30 : Int32) ≤ jn k from (jn_le (k := 30) (by omega) (by omega)).mpr (by omega)), s51_38, s51_40, show k = 30 by omega]
    exact ⟨rfl, rfl⟩
  | succ f ih =>
    intro k h nv hk
    rw [naRun]
    by_cases h1 : hPass h
    · rw [if_pos h1]
      obtain ⟨h', nv', e⟩ := ih (k + 1) (hTire h) (nUnfold h 0) (by omega)
      refine ⟨h', nv', ?_⟩
      rw [s51_10, s51_11, s51_13, if_neg (show ¬ (30 : Int32) ≤ jn k from fun z => absurd ((jn_le (k := 30) (by omega) (by omega)).mp z) (by omega))]
      simp only [s51_16, s51_17, s51_20, s51_23, s51_24, s51_25, s51_26, s51_29, s51_32, c57, c27, jcall_eq, Option.toList_some, Option.toList_none, List.cons_append, List.nil_append, jb_0, Classical.not_not]
      rw [if_pos h1, s51_35, jn_1]
      exact e
    · rw [if_neg h1]
      refine ⟨h, nUnfold h 0, ?_⟩
      rw [s51_10, s51_11, s51_13, if_neg (show ¬ (30 : Int32) ≤ jn k from fun z => absurd ((jn_le (k := 30) (by omega) (by omega)).mp z) (by omega))]
      simp only [s51_16, s51_17, s51_20, s51_23, s51_24, s51_25, s51_26, s51_29, s51_32, c57, c27, jcall_eq, Option.toList_some, Option.toList_none, List.cons_append, List.nil_append, jb_0, Classical.not_not]
      rw [if_neg h1]
      exact ⟨trivial, trivial⟩
/-- Outlook.nightsAhead -/
theorem c51 : ∃ h' nv', jE (d + 5) 51 0 [some (.inr (.inr (some (5, (0, 0))))), some (.inr (.inr (some (1, (0, 1))))), none] [] (n, ([], M)) (some (.inl (jn (naRun 30 0 (gH M 1))))) (n, ([], sH (sN M 10 nv') 14 h')) := by
  obtain ⟨h', nv', e⟩ := c51_loop (d := d) (n := n) (M := M) 30 0 (gH M 1) (gN M 10) (by omega)
  refine ⟨h', nv', ?_⟩
  simp only [s51_0, s51_1, s51_4, s51_5, s51_8, s51_9, c9 (show (1 : Nat) ≠ 14 by decide), jcall_eq, Option.toList_some, Option.toList_none, List.cons_append, List.nil_append]
  rw [sN_self] at e
  exact e
/-- Outlook.tryAddition -/
theorem c53 {a b : Int32} {p l : Nat} {a4 : Option jV} (hb : gH M 1 10 12 = jn l) (hl : l < 7) (hp : p ≤ l) : ∃ h' nv', ∀ (v : Option jV) (σ' : jS), jE (d + 4) 53 0 [some (.inr (.inr (some (5, (0, 0))))), some (.inr (.inr (some (1, (0, 1))))), some (.inl x), some (.inl (jn p)), a4] [] (n, ([], sH (sN (mO M a b) 10 nv) 14 h)) v σ' ↔ v = none ∧ σ' = (n, ([], sH (sN (mO M (taStep (gH M 1) x p (a, b)).1 (taStep (gH M 1) x p (a, b)).2) 10 nv') 14 h')) := by
  refine ⟨taHouse (gH M 1) x p, nUnfold (hMount (gH M 1) x p) 0, fun v σ' => ?_⟩
  have hm : ∀ (nv : Nat → Nat → Int32) (v : Option jV) (σ' : jS), jE (d + 3) 17 0 [some (.inr (.inr (some (1, (0, 14))))), some (.inl x), some (.inl (jn p))] [] (n, ([], sH (sN (mO M a b) 10 nv) 14 (gH M 1))) v σ' ↔ v = none ∧ σ' = (n, ([], sH (sN (mO M a b) 10 nv) 14 (hMount (gH M 1) x p))) := fun nv v σ' => b17 (d := d + 1) hb hl hp
  have key : ∀ g nv : Nat → Nat → Int32, jE (d + 4) 53 54 [some (.inr (.inr (some (5, (0, 0))))), some (.inr (.inr (some (1, (0, 1))))), some (.inl x), some (.inl (jn p)), a4] [] (n, ([], sH (sN (mO M a b) 10 nv) 14 g)) v σ' ↔ v = none ∧ σ' = (n, ([], sH (sN (mO M (if b < hBnd g then (10 * x + jn p, hBnd g) else (a, b)).1 (if b < hBnd g then (10 * x + jn p, hBnd g) else (a, b)).2) 10 nv) 14 g)) := by
    intro g nv
    simp only [s53_54, s53_55, s53_58, s53_61, s53_63, s53_65, s53_66, s53_69, s53_72, s53_73, s53_74, s53_76, s53_79, s53_80, s53_82, s53_83, s53_84, s53_85, s53_86, s53_89, c23, jcall_eq, Option.toList_some, Option.toList_none, List.cons_append, List.nil_append, sH_k (show (5 : Nat) ≠ 12 by decide) (show (5 : Nat) ≠ 1 by decide), sN_k _ _ _ (show (5 : Nat) ≠ 12 by decide) (show (5 : Nat) ≠ 4 by decide), mO_3, up_sH (show (5 : Nat) ≠ 12 by decide) (show (5 : Nat) ≠ 1 by decide), up_sN (show (5 : Nat) ≠ 12 by decide) (show (5 : Nat) ≠ 4 by decide), mO_a, mO_b]
    by_cases h1 : b < hBnd g
    · simp only [if_pos h1]
    · simp only [if_neg h1]
  have e3 : ∀ g nv : Nat → Nat → Int32, hBindAll (sN (mO M a b) 10 nv 12 (19, 10)) g = hBindAll (nv 3) g := by
    intro g nv
    have e : ∀ p kd cl, hBA1 (sN (mO M a b) 10 nv 12 (19, 10)) p kd cl = hBA1 (nv 3) p kd cl := fun p kd cl => by
      funext k h
      unfold hBA1
      rw [sN_g3]
    unfold hBindAll
    congr 1
    funext k h
    unfold hBA2
    rw [e]
  simp only [s53_0, s53_1, s53_4, s53_5, s53_8, s53_9, s53_12, s53_13, s53_14, s53_17, s53_18, s53_21, s53_22, s53_25, s53_26, s53_29, s53_30, s53_33, s53_34, s53_37, s53_40, s53_43, s53_44, s53_47, s53_48, s53_51, c9 (show (1 : Nat) ≠ 14 by decide), hm, c41, c43, c28, jcall_eq, Option.toList_some, Option.toList_none, List.cons_append, List.nil_append, sT_gH, gH_mO, sH_sH, sT_comm, sN_sN, nUnfold_T, nCarry_T, e3, jb_0, key]
  unfold taStep taHouse
  by_cases h1 : hPass (hMount (gH M 1) x p)
  · rw [if_pos h1]
    exact iff_of_eq (if_neg (fun w => w h1))
  · rw [if_neg h1]
    exact iff_of_eq (if_pos h1)
end JO
