/-! the reference's calls that only tell -/
abbrev lm (as : List jV) : List (Option jV) := some (.inr (.inr (some (11, (0, 0))))) :: as.map some
theorem iEq_sG {M : jM} {g : jH} : iEq M (sG M g) := by
  intro k a s w
  unfold sG
  rw [if_neg (fun z => w (by rw [z.1, z.2.1]; unfold scr; simp)), if_neg (fun z => w (by rw [z.1, z.2.1]; unfold scr; simp)), if_neg (fun z => w (by rw [z.1, z.2.1]; unfold scr; simp)), if_neg (fun z => w (by rw [z.1, z.2.1]; unfold scr; simp))]
theorem iEq_60 {M : jM} {c : Nat → Int32} : iEq M (mC M (60, 0) c) := iEq_mC (fun s => Or.inl (by unfold scr; simp))
theorem iEq_66 {M : jM} {c : Nat → Int32} : iEq M (mC M (66, 0) c) := iEq_mC (fun s => Or.inl (by unfold scr; simp))
section JRC1
variable {d n K a b l f : Nat} {v : Option jV} {σ' : jS} {M M' : jM} {x y z : Int32} {h g nv : jH} {c : Nat → Int32}
theorem rS_iEq (e : iEq M M') (ha : a ≤ 7) (hb : b ≤ 7) (w : rS a b M h) : rS a b M' h := rS_eq (eqO_le (P := fun k a s => ¬ scr k a s) e (fun k a s z => by unfold fS at z; unfold scr; omega)) ha hb w
theorem rO_iEq (e : iEq M M') (w : rO K a b l 55 M h) : rO K a b l 55 M' h := by
  have w1 := w.1.1
  refine ⟨w.1, rS_iEq e (by omega) (by omega) w.2.1, ?_, w.2.2.2⟩
  rw [show M' 12 (55, 0) = M 12 (55, 0) from funext fun s => e 12 (55, 0) s (by unfold scr; simp)]
  exact w.2.2.1
theorem hy_iEq (e : iEq M M') (hy : M 11 (0, 0) 25 = 0) : M' 11 (0, 0) 25 = 0 := (e 11 (0, 0) 25 (by unfold scr; simp)).trans hy
theorem jti {k : Nat} (hk : k < 1000) : y.toInt = (k : Int) ↔ y = jn k := by
  rw [← Int32.toInt_inj, jn_int (by omega)]
theorem jti0 : y.toInt = 0 ↔ y = 0 := jti (k := 0) (by omega)
theorem jti1 : y.toInt = 1 ↔ y = 1 := jti (k := 1) (by omega)
/-- scene -/
theorem m159 (w : rO K a b l 55 M h) : jE (d + 20) 159 0 (lm [.inl x, .inl y]) [] (n, ([], M)) v σ' ↔ v = some (.inl (lwScene h x y)) ∧ σ' = (n, ([], M)) := by
  have w1 := w.1.1
  unfold lwScene
  by_cases h1 : 0 ≤ x ∧ x ≤ h 10 10 - 1
  · obtain ⟨s, hs, rfl⟩ := (lw_scene w.1).mp h1
    simp (disch := omega) only [lm, List.map_cons, List.map_nil, s159_0, s159_1, s159_2, s159_5, s159_8, s159_9, s159_10, s159_11, s159_44, s159_45, s159_48, s159_49, s159_50, s159_51, s159_52, s159_55, s159_56, s159_57, s159_58, s159_59, s159_62, s159_63, s159_64, s159_66, s159_69, s159_71, s159_74, s159_75, s159_78, s159_79, s159_80, s159_81, s159_82, s159_85, s159_86, s159_89, s159_90, s159_91, s159_94, s159_96, s159_97, s159_98, s159_99, s159_100, s159_101, r143 w.2.1 w.1.2.1.1, r145 w, jcall_eq, Option.toList_some, Option.toList_none, List.cons_append, List.nil_append, jb_0, Classical.not_not, jifN, if_pos h1, jm_43, jm_44, jm_45, jm_55, jnA32, jiz, jcl, (w.2.1.2.1 s hs).1, (w.2.1.2.1 s hs).2.1, (w.2.1.2.1 s hs).2.2, w.2.2.1.2.2.2 s hs, rg_in (show 7 ≤ 1000 by omega) (show s < 7 by omega), jif]
  · simp only [lm, List.map_cons, List.map_nil, s159_0, s159_1, s159_2, s159_5, s159_8, s159_9, r143 w.2.1 w.1.2.1.1, jcall_eq, Option.toList_some, Option.toList_none, List.cons_append, List.nil_append, jb_0, Classical.not_not, jifN, if_neg h1]
/-- seat -/
theorem m160 (w : rO K a b l 55 M h) : jE (d + 20) 160 0 (lm [.inl x, .inl y]) [] (n, ([], M)) v σ' ↔ v = some (.inl (lwSeat h x y)) ∧ σ' = (n, ([], M)) := by
  have w1 := w.1.1
  unfold lwSeat
  by_cases h1 : 0 ≤ x ∧ x ≤ h 10 11 - 1
  · obtain ⟨s, hs, rfl⟩ := (lw_seat w.1).mp h1
    simp (disch := omega) only [lm, List.map_cons, List.map_nil, s160_0, s160_1, s160_2, s160_5, s160_8, s160_9, s160_10, s160_11, s160_44, s160_45, s160_48, s160_50, s160_51, s160_52, s160_53, s160_54, s160_55, s160_58, s160_59, s160_60, s160_61, s160_62, s160_65, s160_66, s160_67, s160_68, s160_69, s160_70, s160_73, s160_74, s160_77, s160_78, s160_79, s160_82, s160_84, s160_85, s160_86, s160_87, s160_88, s160_89, r144 w.2.1 w.1.2.1.2.1, r146 w hs, jcall_eq, Option.toList_some, Option.toList_none, List.cons_append, List.nil_append, jb_0, Classical.not_not, jifN, if_pos h1, jm_48, jm_49, jm_55, jnA11, jnA25, jiz, jcl, (w.2.1.2.2 s hs).1, (w.2.1.2.2 s hs).2, (w.2.2.1.2.2.1 s hs).1, (w.2.2.1.2.2.1 s hs).2.2, rg_in (show 7 ≤ 1000 by omega) (show s < 7 by omega), jif]
  · simp only [lm, List.map_cons, List.map_nil, s160_0, s160_1, s160_2, s160_5, s160_8, s160_9, r144 w.2.1 w.1.2.1.2.1, jcall_eq, Option.toList_some, Option.toList_none, List.cons_append, List.nil_append, jb_0, Classical.not_not, jifN, if_neg h1]
/-- tonight -/
theorem m161 (w : rO K a b l 55 M h) (hK : K ≤ 1000000) (hy : M 11 (0, 0) 25 = 0) : ∃ M2, iEq M M2 ∧ jE (d + 20) 161 0 (lm [.inl x, .inl y]) [] (n, ([], M)) (some (.inl (lwTon h x y))) (n, ([], M2)) := by
  have w1 := w.1.1
  by_cases h1 : 0 ≤ x ∧ x ≤ h 10 11 - 1
  · by_cases h2 : 0 ≤ y ∧ y ≤ 2
    · refine ⟨sG M (mGo h b l 0), iEq_sG, jE_of (fun v σ' => ?_)⟩
      unfold lwTon
      rw [if_pos ⟨h1, h2⟩]
      obtain ⟨s, hs, rfl⟩ := (lw_seat w.1).mp h1
      obtain ⟨q1, q2, q3, q4⟩ := (same_go (y := 0) w.1 hK).1 s hs
      simp (disch := omega) only [lm, List.map_cons, List.map_nil, s161_0, s161_1, s161_2, s161_5, s161_8, s161_9, s161_10, s161_11, s161_14, s161_17, s161_18, s161_19, s161_20, s161_21, s161_24, s161_27, s161_28, s161_29, s161_32, s161_33, s161_36, s161_37, s161_38, s161_41, s161_42, s161_43, s161_46, s161_47, s161_50, s161_51, s161_52, s161_55, s161_56, s161_59, s161_60, s161_61, r144 w.2.1 w.1.2.1.2.1, r123, r154 w hy, jcall_eq, Option.toList_some, Option.toList_none, List.cons_append, List.nil_append, jb_0, Classical.not_not, jifN, if_pos h1, if_pos h2, jm_61, jm_62, jm_64, jiz, jcl, sG_0, sG_1, sG_3, q1, q2, q4, rg_in (show 7 ≤ 1000 by omega) (show s < 7 by omega), jif, jti0, jti1]
    · refine ⟨M, iEq_rfl M, jE_of (fun v σ' => ?_)⟩
      unfold lwTon
      rw [if_neg (fun z => h2 z.2)]
      simp only [lm, List.map_cons, List.map_nil, s161_0, s161_1, s161_2, s161_5, s161_8, s161_9, s161_10, s161_11, s161_14, s161_17, s161_18, r144 w.2.1 w.1.2.1.2.1, r123, jcall_eq, Option.toList_some, Option.toList_none, List.cons_append, List.nil_append, jb_0, Classical.not_not, jifN, if_pos h1, if_neg h2]
  · refine ⟨M, iEq_rfl M, jE_of (fun v σ' => ?_)⟩
    unfold lwTon
    rw [if_neg (fun z => h1 z.1)]
    simp only [lm, List.map_cons, List.map_nil, s161_0, s161_1, s161_2, s161_5, s161_17, s161_18, r144 w.2.1 w.1.2.1.2.1, jcall_eq, Option.toList_some, Option.toList_none, List.cons_append, List.nil_append, jb_0, Classical.not_not, jifN, if_neg h1]
/-- passes -/
theorem m162 (w : rO K a b l 55 M h) (hK : K ≤ 1000000) (hy : M 11 (0, 0) 25 = 0) : ∃ M2, iEq M M2 ∧ jE (d + 20) 162 0 (lm [.inl x]) [] (n, ([], M)) (some (.inl (lwPass h x))) (n, ([], M2)) := by
  by_cases h1 : 0 ≤ x ∧ x ≤ 1
  · by_cases h2 : x = 0
    · refine ⟨sG M (mGo h b l 0), iEq_sG, jE_of (fun v σ' => ?_)⟩
      unfold lwPass
      rw [if_pos h1, if_pos h2]
      simp only [lm, List.map_cons, List.map_nil, s162_0, s162_1, s162_2, s162_3, s162_6, s162_11, s162_12, s162_15, s162_16, s162_17, s162_20, s162_23, s162_42, r123, r154 w hy, jcall_eq, Option.toList_some, Option.toList_none, List.cons_append, List.nil_append, jb_0, Classical.not_not, jifN, if_pos h1, if_pos h2, (same_cnt (y := 0) w.1 hK).1]
    · obtain ⟨g, _, e⟩ := r155 (d := d + 15) (n := n) w hK hy
      refine ⟨sG M g, iEq_sG, jE_of (fun v σ' => ?_)⟩
      unfold lwPass
      rw [if_pos h1, if_neg h2]
      simp only [lm, List.map_cons, List.map_nil, s162_0, s162_1, s162_2, s162_3, s162_6, s162_11, s162_12, s162_26, s162_27, s162_28, s162_31, s162_34, s162_37, s162_38, s162_41, s162_42, r123, e, jcall_eq, Option.toList_some, Option.toList_none, List.cons_append, List.nil_append, jb_0, Classical.not_not, jifN, if_pos h1, if_neg h2, jif]
      rfl
  · refine ⟨M, iEq_rfl M, jE_of (fun v σ' => ?_)⟩
    unfold lwPass
    rw [if_neg h1]
    simp only [lm, List.map_cons, List.map_nil, s162_0, s162_1, s162_2, s162_3, s162_6, s162_9, s162_10, r123, jcall_eq, Option.toList_some, Option.toList_none, List.cons_append, List.nil_append, jb_0, Classical.not_not, jifN, if_neg h1]
/-- count -/
theorem m194 (w : rO K a b l 55 M h) : jE (d + 20) 194 0 (lm [.inl x]) [] (n, ([], M)) v σ' ↔ v = some (.inl (if x.toInt = 0 then h 10 10 else if x.toInt = 1 then h 10 11 else if x.toInt = 2 then h 10 12 else if x.toInt = 3 then h 10 13 else if x.toInt = 4 then h 10 14 else if x.toInt = 5 then h 10 15 else if x.toInt = 6 then hClq h else if x.toInt = 7 then hBnd h else if x.toInt = 8 then M 11 (0, 0) 29 else if x.toInt = 9 then M 11 (0, 0) 17 else if x.toInt = 10 then M 11 (0, 0) 19 else if x.toInt = 11 then M 11 (0, 0) 1 else -1)) ∧ σ' = (n, ([], M)) := by
  have w1 := w.1.1
  simp only [lm, List.map_cons, List.map_nil, s194_0, s194_1, s194_64, s194_65, s194_68, s194_69, s194_70, s194_71, s194_72, s194_75, s194_76, s194_77, s194_78, s194_79, s194_82, s194_84, s194_85, s194_86, s194_87, s194_90, s194_92, s194_93, s194_94, s194_95, s194_98, s194_100, s194_101, s194_102, s194_103, s194_106, s194_108, s194_109, s194_110, s194_111, s194_112, s194_115, s194_118, s194_119, s194_120, s194_121, s194_124, s194_127, s194_128, s194_129, s194_132, s194_133, s194_134, s194_137, s194_138, s194_139, s194_142, s194_143, s194_144, s194_147, s194_148, s194_149, r148 w, r149 w, jcall_eq, Option.toList_some, Option.toList_none, List.cons_append, List.nil_append, jm_42, jm_46, jm_55, jk0, jk7, jk8, jk9, jk10, ji0 (show 0 < 2 by decide), ji7 (show 7 < 39 by decide), ji8 (show 8 < 39 by decide), ji9 (show 9 < 39 by decide), ji10 (show 10 < 39 by decide), w.2.1.1.1, w.2.1.1.2, w.2.2.1.2.1.1, w.2.2.1.2.1.2.1, w.2.2.1.2.1.2.2.1, w.2.2.1.2.1.2.2.2, w.1.2.1.1, w.1.2.1.2.1, jif]
/-- write -/
theorem m124_no (h1 : ¬ (32 ≤ x ∧ x ≤ 126)) : jE (d + 20) 124 0 (lm [.inl x]) [] (n, ([], M)) v σ' ↔ v = some (.inl (-1)) ∧ σ' = (n, ([], M)) := by
  simp only [lm, List.map_cons, List.map_nil, s124_0, s124_1, s124_3, s124_5, s124_8, s124_11, s124_12, r123, jcall_eq, Option.toList_some, Option.toList_none, List.cons_append, List.nil_append, jb_0, Classical.not_not, jifN, if_neg h1]
theorem m124_full (h1 : 32 ≤ x ∧ x ≤ 126) (hL : M 11 (0, 0) 1 = 200) : jE (d + 20) 124 0 (lm [.inl x]) [] (n, ([], M)) v σ' ↔ v = some (.inl (-3)) ∧ σ' = (n, ([], M)) := by
  simp only [lm, List.map_cons, List.map_nil, s124_0, s124_1, s124_3, s124_5, s124_8, s124_13, s124_14, s124_17, s124_20, s124_23, s124_25, r123, jcall_eq, Option.toList_some, Option.toList_none, List.cons_append, List.nil_append, jb_0, Classical.not_not, jifN, if_pos h1, hL, if_true]
theorem m124_yes {L k : Nat} (hk : 32 ≤ k ∧ k ≤ 126) (hL : M 11 (0, 0) 1 = jn L) (h2 : L < 200) : jE (d + 20) 124 0 (lm [.inl (jn k)]) [] (n, ([], M)) v σ' ↔ v = some (.inl (jn (L + 1))) ∧ σ' = (n, ([], jUp (jUp M 14 (40, 0) L (jn k)) 11 (0, 0) 1 (jn (L + 1)))) := by
  have h1 : 32 ≤ jn k ∧ jn k ≤ 126 := ⟨(jn_le (k := 32) (by omega) (by omega)).mpr hk.1, (jn_le (l := 126) (by omega) (by omega)).mpr hk.2⟩
  have e0 : ¬ jn L = 200 := fun z => by have := jn_inj (a := L) (b := 200) (by omega) (by omega) z; omega
  have e1 : (jn k).toInt8.toInt32 = jn k := by
    have h : ∀ k : Fin 127, (jn k.1).toInt8.toInt32 = jn k.1 := by decide +kernel
    exact h ⟨k, by omega⟩
  have e2 : ((jn k).toInt8.toInt32.toInt8.toInt32 = (jn k).toInt8.toInt32) = True := by rw [e1, e1]; simp
  simp (disch := omega) only [lm, List.map_cons, List.map_nil, s124_0, s124_1, s124_3, s124_5, s124_8, s124_11, s124_12, s124_13, s124_14, s124_17, s124_20, s124_23, s124_25, s124_26, s124_27, s124_30, s124_31, s124_34, s124_35, s124_36, s124_37, s124_38, s124_39, s124_42, s124_43, s124_44, s124_47, s124_48, s124_51, r123, jcall_eq, Option.toList_some, Option.toList_none, List.cons_append, List.nil_append, jb_0, Classical.not_not, jifN, if_pos h1, hL, e0, if_false, e1, jm_40, jcl, jn_1, jUp_k (show (11 : Nat) ≠ 14 by decide), jUp_at, true_and]
  exact ⟨fun z => z.2, fun z => ⟨⟨jn_pos (by omega), by omega⟩, z⟩⟩
/-- wipe -/
theorem m125 : jE (d + 20) 125 0 (lm [] ++ [none]) [] (n, ([], M)) v σ' ↔ v = some (.inl (M 11 (0, 0) 1)) ∧ σ' = (n, ([], jUp M 11 (0, 0) 1 0)) := by
  simp only [lm, List.map_nil, s125_0, s125_1, s125_4, s125_5, s125_6, s125_7, s125_10, s125_11, jcall_eq, Option.toList_some, Option.toList_none, List.cons_append, List.nil_append]
/-- see -/
theorem m185_no (w : rO K a b l 55 M h) (h1 : ¬ (lwIsSe h x ∧ 0 ≤ y ∧ y ≤ 7)) : jE (d + 20) 185 0 (lm [.inl x, .inl y]) [] (n, ([], M)) v σ' ↔ v = some (.inl (-1)) ∧ σ' = (n, ([], M)) := by
  simp only [lm, List.map_cons, List.map_nil, s185_0, s185_1, s185_2, s185_5, s185_8, s185_9, s185_10, s185_12, s185_15, s185_18, s185_19, r144 w.2.1 w.1.2.1.2.1, r123, jcall_eq, Option.toList_some, Option.toList_none, List.cons_append, List.nil_append, jb_0, Classical.not_not, jifN]
  by_cases e1 : 0 ≤ x ∧ x ≤ h 10 11 - 1
  · rw [if_pos e1]
    by_cases e2 : 0 ≤ y ∧ y ≤ 7
    · exact absurd ⟨e1, e2⟩ h1
    · rw [if_neg e2]
  · rw [if_neg e1]
theorem m185_full (w : rO K a b l 55 M h) (h1 : lwIsSe h x ∧ 0 ≤ y ∧ y ≤ 7) (hm : M 11 (0, 0) 29 = 6) : jE (d + 20) 185 0 (lm [.inl x, .inl y]) [] (n, ([], M)) v σ' ↔ v = some (.inl (-3)) ∧ σ' = (n, ([], M)) := by
  have e1 : 0 ≤ x ∧ x ≤ h 10 11 - 1 := h1.1
  simp only [lm, List.map_cons, List.map_nil, s185_0, s185_1, s185_2, s185_5, s185_8, s185_9, s185_10, s185_12, s185_15, s185_20, s185_21, s185_24, s185_26, s185_29, s185_31, r144 w.2.1 w.1.2.1.2.1, r123, jcall_eq, Option.toList_some, Option.toList_none, List.cons_append, List.nil_append, jb_0, Classical.not_not, jifN, if_pos e1, if_pos h1.2, hm, if_true]
theorem m185_yes (w : rO K a b l 55 M h) (h1 : lwIsSe h x ∧ 0 ≤ y ∧ y ≤ 7) {m : Nat} (hm : M 11 (0, 0) 29 = jn m) (h6 : m < 6) : jE (d + 20) 185 0 (lm [.inl x, .inl y]) [] (n, ([], M)) v σ' ↔ v = some (.inl (jn (m + 1))) ∧ σ' = (n, ([], jUp (mC (mC M (67, 0) (upd (M 12 (67, 0)) m x)) (68, 0) (upd (M 12 (68, 0)) m y)) 11 (0, 0) 29 (jn (m + 1)))) := by
  have e1 : 0 ≤ x ∧ x ≤ h 10 11 - 1 := h1.1
  have e0 : ¬ jn m = 6 := fun z => by have := jn_inj (a := m) (b := 6) (by omega) (by omega) z; omega
  simp (disch := omega) only [lm, List.map_cons, List.map_nil, s185_0, s185_1, s185_2, s185_5, s185_8, s185_9, s185_10, s185_12, s185_15, s185_18, s185_19, s185_20, s185_21, s185_24, s185_26, s185_29, s185_31, s185_32, s185_33, s185_36, s185_37, s185_40, s185_41, s185_42, s185_43, s185_46, s185_47, s185_50, s185_51, s185_52, s185_53, s185_54, s185_57, s185_58, s185_59, s185_62, s185_63, s185_66, r144 w.2.1 w.1.2.1.2.1, r123, jcall_eq, Option.toList_some, Option.toList_none, List.cons_append, List.nil_append, jb_0, Classical.not_not, jifN, if_pos e1, if_pos h1.2, hm, e0, if_false, jm_67, jm_68, jiz, jcl, mC_up, mC_k (show (11 : Nat) ≠ 12 by decide), mC_ne (show ((68, 0) : jA) ≠ (67, 0) by decide), jn_1, jUp_at]
/-- forget -/
theorem m186 : jE (d + 20) 186 0 (lm [] ++ [none]) [] (n, ([], M)) v σ' ↔ v = some (.inl (M 11 (0, 0) 29)) ∧ σ' = (n, ([], jUp M 11 (0, 0) 29 0)) := by
  simp only [lm, List.map_nil, s186_0, s186_1, s186_4, s186_5, s186_6, s186_7, s186_10, s186_11, jcall_eq, Option.toList_some, Option.toList_none, List.cons_append, List.nil_append]
end JRC1
