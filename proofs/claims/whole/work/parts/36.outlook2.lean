/-! what would be: the best addition, what fits -/
section JO2
variable {d n i q : Nat} {v : Option jV} {σ' : jS} {M : jM} {x y z : Int32} {h nv : Nat → Nat → Int32}
theorem c52_in {l : Nat} (hb : gH M 1 10 12 = jn l) (hl : l < 7) : ∀ (f k : Nat) (o : Int32 × Int32) (h nv : Nat → Nat → Int32), k + f = l + 1 → ∃ h' nv', ∀ (v : Option jV) (σ' : jS), jE (d + 5) 52 35 [some (.inr (.inr (some (5, (0, 0))))), some (.inr (.inr (some (1, (0, 1))))), some (.inl x), some (.inl (jn k))] [] (n, ([], sH (sN (mO M o.1 o.2) 10 nv) 14 h)) v σ' ↔ jE (d + 5) 52 56 [some (.inr (.inr (some (5, (0, 0))))), some (.inr (.inr (some (1, (0, 1))))), some (.inl x), some (.inl (jn (l + 1)))] [] (n, ([], sH (sN (mO M (jfor (fun p o => taStep (gH M 1) x p o) f k o).1 (jfor (fun p o => taStep (gH M 1) x p o) f k o).2) 10 nv') 14 h')) v σ' := by
  intro f
  induction f with
  | zero =>
    intro k o h nv hk
    refine ⟨h, nv, fun v σ' => ?_⟩
    rw [s52_35, s52_36, s52_37, s52_40, sT_1, mO_k (by decide), show M 1 (0, 1) 12 = jn l from hb, if_pos ((jn_lt (by omega) (by omega)).mpr (by omega)), show k = l + 1 by omega]
    rfl
  | succ f ih =>
    intro k o h nv hk
    obtain ⟨h1, nv1, e1⟩ := c53 (d := d) (n := n) (M := M) (x := x) (h := h) (nv := nv) (a := o.1) (b := o.2) (p := k) (a4 := none) hb hl (by omega)
    obtain ⟨h', nv', e⟩ := ih (k + 1) (taStep (gH M 1) x k o) h1 nv1 (by omega)
    refine ⟨h', nv', fun v σ' => ?_⟩
    rw [s52_35, s52_36, s52_37, s52_40, sT_1, mO_k (by decide), show M 1 (0, 1) 12 = jn l from hb, if_neg (fun z => absurd ((jn_lt (by omega) (by omega)).mp z) (by omega))]
    simp only [s52_43, s52_44, s52_45, s52_46, s52_47, s52_50, e1, jcall_eq, Option.toList_some, Option.toList_none, List.cons_append, List.nil_append]
    rw [s52_53, jn_1]
    exact e v σ'
theorem c52_loop {l : Nat} (hb : gH M 1 10 12 = jn l) (hl : ∀ k, k < hSc0 (gH M 1) → ¬ hBilled (gH M 1) (jn k) → l < 7) : ∀ (f k : Nat) (o : Int32 × Int32) (h nv : Nat → Nat → Int32) (a3 : Option jV), k + f = hSc0 (gH M 1) ∨ (f = 0 ∧ hSc0 (gH M 1) ≤ k ∧ k < 2147483648) → ∃ h' nv', ∀ (v : Option jV) (σ' : jS), jE (d + 5) 52 14 [some (.inr (.inr (some (5, (0, 0))))), some (.inr (.inr (some (1, (0, 1))))), some (.inl (jn k)), a3] [] (n, ([], sH (sN (mO M o.1 o.2) 10 nv) 14 h)) v σ' ↔ v = none ∧ σ' = (n, ([], sH (sN (mO M (jfor (faStep (gH M 1)) f k o).1 (jfor (faStep (gH M 1)) f k o).2) 10 nv') 14 h')) := by
  intro f
  have hy := jx_lt (M 1 (0, 1) 10)
  have he : hSc0 (gH M 1) = (M 1 (0, 1) 10).toNatClampNeg := rfl
  have heB : ∀ l, M 1 (0, 1) 12 = jn l → l < 7 → hB (gH M 1) = l := fun l hb hl => by
    show (M 1 (0, 1) 12).toNatClampNeg = l
    rw [hb]
    exact jn_clamp (by omega)
  induction f with
  | zero =>
    intro k o h nv a3 hk
    refine ⟨h, nv, fun v σ' => ?_⟩
    rw [s52_14, s52_15, s52_16, s52_19, sT_1, mO_k (by decide), if_pos (show M 1 (0, 1) 10 ≤ jn k from (jn_ge (by omega)).mpr (by omega)), s52_62]
    rfl
  | succ f ih =>
    intro k o h nv a3 hk
    have e4 : ∀ (a b : Int32) h nv, rfind 7 (sH (sN (mO M a b) 10 nv) 14 h 12 (4, 1)) (jn k) (M 1 (0, 1) 12).toNatClampNeg 0 = hOnBill (gH M 1) (jn k) := fun a b h nv => by rw [sT_12 _ _ _ _ _ (by decide), mO_k (by decide)]; rfl
    have e5 : ∀ (a b : Int32), mO M a b 1 = M 1 := fun a b => mO_k (by decide)
    simp only [jfor]
    rw [show faStep (gH M 1) k o = if hBilled (gH M 1) (jn k) then o else jfor (fun p o => taStep (gH M 1) (jn k) p o) (hB (gH M 1) + 1) 0 o from rfl]
    by_cases h1 : hBilled (gH M 1) (jn k)
    · rw [if_pos h1]
      obtain ⟨h', nv', e⟩ := ih (k + 1) o h nv a3 (by omega)
      refine ⟨h', nv', fun v σ' => ?_⟩
      rw [s52_14, s52_15, s52_16, s52_19, sT_1, mO_k (by decide), if_neg (show ¬ M 1 (0, 1) 10 ≤ jn k from fun z => absurd ((jn_ge (by omega)).mp z) (by omega))]
      simp only [s52_22, s52_23, s52_24, s52_27, s52_30, s52_56, c16, jcall_eq, Option.toList_some, Option.toList_none, List.cons_append, List.nil_append, sT_1, e4, e5, jb_0, Classical.not_not]
      rw [if_neg h1, s52_59, jn_1]
      exact e v σ'
    · rw [if_neg h1]
      have hl7 := hl k (by omega) h1
      obtain ⟨h2, nv2, e2⟩ := c52_in (d := d) (n := n) (x := jn k) hb hl7 (l + 1) 0 o h nv (by omega)
      obtain ⟨h', nv', e⟩ := ih (k + 1) (jfor (fun p o => taStep (gH M 1) (jn k) p o) (hB (gH M 1) + 1) 0 o) h2 nv2 (some (.inl (jn (l + 1)))) (by omega)
      refine ⟨h', nv', fun v σ' => ?_⟩
      rw [s52_14, s52_15, s52_16, s52_19, sT_1, mO_k (by decide), if_neg (show ¬ M 1 (0, 1) 10 ≤ jn k from fun z => absurd ((jn_ge (by omega)).mp z) (by omega))]
      simp only [s52_22, s52_23, s52_24, s52_27, s52_30, s52_33, s52_34, c16, jcall_eq, Option.toList_some, Option.toList_none, List.cons_append, List.nil_append, sT_1, e4, e5, jb_0, Classical.not_not]
      rw [if_pos (Classical.not_not.mp h1)]
      refine (e2 v σ').trans ?_
      rw [s52_56, s52_59, jn_1, ← heB l hb hl7]
      rw [heB l hb hl7] at e ⊢
      exact e v σ'
def faBest (H : Nat → Nat → Int32) : Int32 × Int32 := jfor (faStep H) (hSc0 H) 0 (-4, -4)
/-- Outlook.findAddition -/
theorem c52 {l : Nat} (hb : gH M 1 10 12 = jn l) (hl : ∀ k, k < hSc0 (gH M 1) → ¬ hBilled (gH M 1) (jn k) → l < 7) : ∃ h' nv', ∀ (v : Option jV) (σ' : jS), jE (d + 5) 52 0 [some (.inr (.inr (some (5, (0, 0))))), some (.inr (.inr (some (1, (0, 1))))), none, none] [] (n, ([], M)) v σ' ↔ v = none ∧ σ' = (n, ([], sH (sN (mO M (faBest (gH M 1)).1 (faBest (gH M 1)).2) 10 nv') 14 h')) := by
  obtain ⟨h', nv', e⟩ := c52_loop (d := d) (n := n) hb hl (hSc0 (gH M 1)) 0 (-4, -4) (gH M 14) (gN M 10) none (by omega)
  refine ⟨h', nv', fun v σ' => ?_⟩
  have e0 : sH (sN (mO M (-4) (-4)) 10 (gN M 10)) 14 (gH M 14) = mO M (-4) (-4) := by
    rw [show gN M 10 = gN (mO M (-4) (-4)) 10 by unfold gN; rw [mO_k (by decide), mO_k (by decide)], sN_self, ← gH_mO M (-4) (-4) 14, sH_self]
  have e1 : jUp (jUp M 5 (0, 0) 2 (-4)) 5 (0, 0) 3 (-4) = mO M (-4) (-4) := by
    conv => lhs; rw [← mO_self M]
    rw [mO_a, mO_b]
  have e2 := e v σ'
  rw [e0] at e2
  simp only [s52_0, s52_1, s52_3, s52_6, s52_7, s52_9, s52_12, s52_13, e1]
  exact e2
theorem c54_loop {S : Int32} : ∀ (f k : Nat) (o : Int32 × (Nat → Nat → Int32)) (nv : Nat → Nat → Int32), k + f = 31 → ∃ h' nv', jE (d + 5) 54 14 [some (.inr (.inr (some (5, (0, 0))))), some (.inr (.inr (some (1, (0, 1))))), some (.inr (.inr (some (8, (0, 0))))), some (.inl S), some (.inl o.1), some (.inl (jn k))] [] (n, ([], sH (sN M 10 nv) 14 o.2)) (some (.inl (jfor (fpStep M 7 S) f k o).1)) (n, ([], sH (sN M 10 nv') 14 h')) := by
  intro f
  induction f with
  | zero =>
    intro k o nv hk
    refine ⟨o.2, nv, ?_⟩
    rw [s54_14, s54_16, s54_18, if_pos (show (30 : Int32) < jn k from (jn_lt (k := 30) (by omega) (by omega)).mpr (by omega)), s54_58, s54_60]
    exact ⟨rfl, rfl⟩
  | succ f ih =>
    intro k o nv hk
    simp only [jfor]
    obtain ⟨h', nv', e⟩ := ih (k + 1) (fpStep M 7 S k o) (nUnfold (nset o.2 7 (rs 7 (o.2 7) S (jn k))) 0) (by omega)
    refine ⟨h', nv', ?_⟩
    rw [s54_14, s54_16, s54_18, if_neg (show ¬ (30 : Int32) < jn k from fun z => absurd ((jn_lt (k := 30) (by omega) (by omega)).mp z) (by omega))]
    simp only [s54_21, s54_22, s54_25, s54_28, s54_29, s54_31, s54_34, s54_35, s54_36, s54_37, s54_40, s54_43, s54_45, s54_46, s54_48, s54_49, s54_50, s54_52, c60, c56, jcall_eq, Option.toList_some, Option.toList_none, List.cons_append, List.nil_append, jl_0, jl_1, jl_2, jl_3, jl_4, jl_5, jl_6, jl_7, jl_8, jl_9, jl_16, jl_17, jl_18, jl_19, jl_20, sH_g0, sH_g1, sH_g2, sH_g3, sH_g4, sH_g5, sH_g6, sH_g7, sH_g8, sH_g9, sH_p0, sH_p1, sH_p2, sH_p3, sH_p4, sH_p5, sH_p6, sH_p7, sH_p8, sH_p9, sH_s10, sH_s11, sH_s12, sH_s13, sH_s14, sH_s15, sH_u10, sH_u11, sH_u12, sH_u13, sH_u14, sH_u15, jb_0]
    rw [s54_55, s54_55, jn_1]
    unfold fpStep at e ⊢
    by_cases h1 : sgOk M S (rg 7 (nUnfold (nset o.2 7 (rs 7 (o.2 7) S (jn k))) 0 1) S)
    · rw [if_neg (fun w => w h1)]
      rw [if_pos h1] at e ⊢
      exact e
    · rw [if_pos h1]
      rw [if_neg h1] at e ⊢
      exact e
def fpBest (M : jM) (f : Nat) (S : Int32) (N : Nat) : Int32 := (jfor (fpStep M f S) N 0 (0, gH M 1)).1
/-- Outlook.fittingPatiences -/
theorem c54 : ∃ h' nv', jE (d + 5) 54 0 [some (.inr (.inr (some (5, (0, 0))))), some (.inr (.inr (some (1, (0, 1))))), some (.inr (.inr (some (8, (0, 0))))), some (.inl x), none, none] [] (n, ([], M)) (some (.inl (fpBest M 7 x 31))) (n, ([], sH (sN M 10 nv') 14 h')) := by
  obtain ⟨h', nv', e⟩ := c54_loop (d := d) (n := n) (M := M) (S := x) 31 0 (0, gH M 1) (gN M 10) (by omega)
  refine ⟨h', nv', ?_⟩
  rw [sN_self] at e
  simp only [s54_0, s54_1, s54_3, s54_4, s54_7, s54_8, s54_11, s54_12, c9 (show (1 : Nat) ≠ 14 by decide), jcall_eq, Option.toList_some, Option.toList_none, List.cons_append, List.nil_append]
  exact e
theorem c55_loop {S : Int32} : ∀ (f k : Nat) (o : Int32 × (Nat → Nat → Int32)) (nv : Nat → Nat → Int32), k + f = 4 → ∃ h' nv', jE (d + 5) 55 14 [some (.inr (.inr (some (5, (0, 0))))), some (.inr (.inr (some (1, (0, 1))))), some (.inr (.inr (some (8, (0, 0))))), some (.inl S), some (.inl o.1), some (.inl (jn k))] [] (n, ([], sH (sN M 10 nv) 14 o.2)) (some (.inl (jfor (fpStep M 6 S) f k o).1)) (n, ([], sH (sN M 10 nv') 14 h')) := by
  intro f
  induction f with
  | zero =>
    intro k o nv hk
    refine ⟨o.2, nv, ?_⟩
    rw [s55_14, s55_16, s55_17, if_pos (show (4 : Int32) ≤ jn k from (jn_le (k := 4) (by omega) (by omega)).mpr (by omega)), s55_57, s55_59]
    exact ⟨rfl, rfl⟩
  | succ f ih =>
    intro k o nv hk
    simp only [jfor]
    obtain ⟨h', nv', e⟩ := ih (k + 1) (fpStep M 6 S k o) (nUnfold (nset o.2 6 (rs 7 (o.2 6) S (jn k))) 0) (by omega)
    refine ⟨h', nv', ?_⟩
    rw [s55_14, s55_16, s55_17, if_neg (show ¬ (4 : Int32) ≤ jn k from fun z => absurd ((jn_le (k := 4) (by omega) (by omega)).mp z) (by omega))]
    simp only [s55_20, s55_21, s55_24, s55_27, s55_28, s55_30, s55_33, s55_34, s55_35, s55_36, s55_39, s55_42, s55_44, s55_45, s55_47, s55_48, s55_49, s55_51, c60, c56, jcall_eq, Option.toList_some, Option.toList_none, List.cons_append, List.nil_append, jl_0, jl_1, jl_2, jl_3, jl_4, jl_5, jl_6, jl_7, jl_8, jl_9, jl_16, jl_17, jl_18, jl_19, jl_20, sH_g0, sH_g1, sH_g2, sH_g3, sH_g4, sH_g5, sH_g6, sH_g7, sH_g8, sH_g9, sH_p0, sH_p1, sH_p2, sH_p3, sH_p4, sH_p5, sH_p6, sH_p7, sH_p8, sH_p9, sH_s10, sH_s11, sH_s12, sH_s13, sH_s14, sH_s15, sH_u10, sH_u11, sH_u12, sH_u13, sH_u14, sH_u15, jb_0]
    rw [s55_54, s55_54, jn_1]
    unfold fpStep at e ⊢
    by_cases h1 : sgOk M S (rg 7 (nUnfold (nset o.2 6 (rs 7 (o.2 6) S (jn k))) 0 1) S)
    · rw [if_neg (fun w => w h1)]
      rw [if_pos h1] at e ⊢
      exact e
    · rw [if_pos h1]
      rw [if_neg h1] at e ⊢
      exact e
/-- Outlook.fittingTastes -/
theorem c55 : ∃ h' nv', jE (d + 5) 55 0 [some (.inr (.inr (some (5, (0, 0))))), some (.inr (.inr (some (1, (0, 1))))), some (.inr (.inr (some (8, (0, 0))))), some (.inl x), none, none] [] (n, ([], M)) (some (.inl (fpBest M 6 x 4))) (n, ([], sH (sN M 10 nv') 14 h')) := by
  obtain ⟨h', nv', e⟩ := c55_loop (d := d) (n := n) (M := M) (S := x) 4 0 (0, gH M 1) (gN M 10) (by omega)
  refine ⟨h', nv', ?_⟩
  rw [sN_self] at e
  simp only [s55_0, s55_1, s55_3, s55_4, s55_7, s55_8, s55_11, s55_12, c9 (show (1 : Nat) ≠ 14 by decide), jcall_eq, Option.toList_some, Option.toList_none, List.cons_append, List.nil_append]
  exact e
end JO2
