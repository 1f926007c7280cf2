/-! the reference: a season -/
section JRV
variable {d n K a b l f : Nat} {v : Option jV} {σ' : jS} {M M' : jM} {x y z : Int32} {h g nv : jH} {c : Nat → Int32}
theorem m191_loop (hy : M 11 (0, 0) 25 = 0) {H : jH} {Z N : Nat} (hZ : Z ≤ 9999) (hN : N ≤ 40) : ∀ (m k K' l' : Nat) (h' : jH) (M' : jM) (a6 a7 : Option jV), iEq M M' → k + m = N → K' + 7 * m ≤ 1000000 → rO K' a b l' 60 M' h' → ∃ M2 K2 l2 a6' a7', iEq M M2 ∧ rO K2 a b l2 60 M2 (csRun (jn Z) m k h') ∧ ∀ (v : Option jV) (σ' : jS), jE (d + 20) 191 42 [some (.inr (.inr (some (11, (0, 0))))), some (.inl (jn Z)), some (.inl (jn N)), some (.inl z), some (.inl (h' 10 15 - H 10 15)), some (.inl (jn k)), a6, a7] [] (n, ([], M')) v σ' ↔ jE (d + 20) 191 91 [some (.inr (.inr (some (11, (0, 0))))), some (.inl (jn Z)), some (.inl (jn N)), some (.inl z), some (.inl (csRun (jn Z) m k h' 10 15 - H 10 15)), some (.inl (jn N)), a6', a7'] [] (n, ([], M2)) v σ' := by
  intro m
  induction m with
  | zero =>
    intro k K' l' h' M' a6 a7 e hk hK w
    refine ⟨M', K', l', a6, a7, e, w, fun v σ' => ?_⟩
    rw [s191_42, s191_44, s191_45, if_pos ((jn_le (by omega) (by omega)).mpr (by omega)), show k = N by omega]
    rfl
  | succ m ih =>
    intro k K' l' h' M' a6 a7 e hk hK w
    have hy' := hy_iEq e hy
    obtain ⟨r, hr, er⟩ := drw_ok hZ (show k ≤ 40 by omega)
    obtain ⟨M1, l1, i1, w1, e1⟩ := r190 (d := d + 7) (n := n) w (by omega) hy' hr
    obtain ⟨M2, K2, l2, a6', a7', i2, w2, e2⟩ := ih (k + 1) (K' + 7) l1 (cDraw h' (jn r)) M1 (some (.inr (.inl (drX (jn Z) (jn k))))) none (iEq_tr e i1) (by omega) (by omega) w1
    have hi := fun (v : Option jV) (σ' : jS) => jE_iff (v := v) (σ' := σ') e1
    have eC : csRun (jn Z) (m + 1) k h' = csRun (jn Z) m (k + 1) (cDraw h' (jn r)) := by
      unfold csRun
      rw [jfor, er]
    refine ⟨M2, K2, l2, a6', a7', i2, by rw [eC]; exact w2, fun v σ' => ?_⟩
    rw [eC, ← e2 v σ']
    have en : (¬ (65521 : Int64) = 0) = True := eq_true (by decide)
    have ed : (drX (jn Z) (jn k) * drX (jn Z) (jn k) % 65521).toInt32 = jn r := er
    have one : jE (d + 20) 191 42 [some (.inr (.inr (some (11, (0, 0))))), some (.inl (jn Z)), some (.inl (jn N)), some (.inl z), some (.inl (h' 10 15 - H 10 15)), some (.inl (jn k)), a6, a7] [] (n, ([], M')) v σ' ↔ jE (d + 20) 191 88 [some (.inr (.inr (some (11, (0, 0))))), some (.inl (jn Z)), some (.inl (jn N)), some (.inl z), some (.inl (cDraw h' (jn r) 10 15 - H 10 15)), some (.inl (jn k + 1)), some (.inr (.inl (drX (jn Z) (jn k)))), none] [] (n, ([], M1)) v σ' := by
      rw [s191_42, s191_44, s191_45, if_neg (fun z => absurd ((jn_le (by omega) (by omega)).mp z) (by omega))]
      have eX : (7919 * (jn Z).toInt64 + 6151 * (jn k).toInt64 + 1 : Int64) = drX (jn Z) (jn k) := rfl
      simp only [s191_48, s191_51, s191_52, s191_53, s191_54, s191_57, s191_59, s191_60, s191_61, s191_62, s191_63, s191_64, s191_66, s191_68, s191_69, s191_71, s191_73, s191_74, s191_77, s191_78, s191_79, s191_82, s191_83, s191_85, eX, en, true_and, ed, hi, jcall_eq, Option.toList_some, Option.toList_none, List.cons_append, List.nil_append]
      have ea : ∀ A B C : Int32, A - B + (C - A) = C - B := fun A B C => by
        rw [Int32.sub_eq_add_neg, Int32.sub_eq_add_neg, Int32.sub_eq_add_neg, Int32.add_comm C (-A), ← Int32.add_assoc, Int32.add_assoc A, Int32.add_comm (-B), ← Int32.add_assoc, Int32.add_right_neg, Int32.zero_add, Int32.add_comm]
      rw [ea]
    rw [one, s191_88, jn_1]
/-- season -/
theorem m191 (w : rO K a b l 55 M h) (hK : K ≤ 900000) (hy : M 11 (0, 0) 25 = 0) : ∃ M2, iEq M M2 ∧ jE (d + 20) 191 0 (lm [.inl x, .inl y, .inl z] ++ [none, none, none, none]) [] (n, ([], M)) (some (.inl (lwSeason h x y z))) (n, ([], M2)) := by
  unfold lwSeason
  by_cases h1 : 0 ≤ x ∧ x ≤ 9999
  · by_cases h2 : 1 ≤ y ∧ y ≤ 40
    · by_cases h3 : 0 ≤ z ∧ z ≤ 1
      · have hy0 : 0 ≤ y := Int32.le_trans (by decide) h2.1
        have ex := jx_of h1.1
        have ey := jx_of hy0
        have hx := jx_le h1.1 (k := 9999) (by omega) h1.2
        have hyN := jx_le hy0 (k := 40) (by omega) h2.2
        obtain ⟨M2, K2, l2, a6', a7', i2, w2, e2⟩ := m191_loop (d := d) (n := n) (z := z) (M := M) (H := h) hy hx hyN y.toNatClampNeg 0 K l h _ none none iEq_60 (by omega) (by omega) (rO_take w)
        rw [ex, ey] at e2
        rw [ex] at w2
        refine ⟨M2, i2, jE_of (fun v σ' => ?_)⟩
        rw [if_pos ⟨h1, h2, h3⟩]
        simp only [lm, List.map_cons, List.map_nil, s191_0, s191_1, s191_2, s191_5, s191_8, s191_11, s191_12, s191_13, s191_15, s191_18, s191_21, s191_22, s191_23, s191_24, s191_27, s191_32, s191_33, s191_36, s191_37, s191_39, s191_40, r123, r142, jcall_eq, Option.toList_some, Option.toList_none, List.cons_append, List.nil_append, jb_0, Classical.not_not, jifN, if_pos h1, if_pos h2, if_pos h3]
        have e3 := e2 v σ'
        rw [Int32.sub_self] at e3
        refine e3.trans ?_
        simp only [s191_91, s191_92, s191_95, s191_97, s191_100, s191_101, s191_102, s191_105, s191_108, r149 w2, jcall_eq, Option.toList_some, Option.toList_none, List.cons_append, List.nil_append, jifN, jif]
      · refine ⟨M, iEq_rfl M, jE_of (fun v σ' => ?_)⟩
        rw [if_neg (fun w => h3 w.2.2)]
        simp only [lm, List.map_cons, List.map_nil, s191_0, s191_1, s191_2, s191_5, s191_8, s191_11, s191_12, s191_13, s191_15, s191_18, s191_21, s191_22, s191_23, s191_24, s191_27, s191_30, s191_31, r123, jcall_eq, Option.toList_some, Option.toList_none, List.cons_append, List.nil_append, jb_0, Classical.not_not, jifN, if_pos h1, if_pos h2, if_neg h3]
    · refine ⟨M, iEq_rfl M, jE_of (fun v σ' => ?_)⟩
      rw [if_neg (fun w => h2 w.2.1)]
      simp only [lm, List.map_cons, List.map_nil, s191_0, s191_1, s191_2, s191_5, s191_8, s191_11, s191_12, s191_13, s191_15, s191_18, s191_30, s191_31, r123, jcall_eq, Option.toList_some, Option.toList_none, List.cons_append, List.nil_append, jb_0, Classical.not_not, jifN, if_pos h1, if_neg h2]
  · refine ⟨M, iEq_rfl M, jE_of (fun v σ' => ?_)⟩
    rw [if_neg (fun w => h1 w.1)]
    simp only [lm, List.map_cons, List.map_nil, s191_0, s191_1, s191_2, s191_5, s191_8, s191_30, s191_31, r123, jcall_eq, Option.toList_some, Option.toList_none, List.cons_append, List.nil_append, jb_0, Classical.not_not, jifN, if_neg h1]
end JRV
