/-! the class's calls that search -/
section JLX
variable {d n K a b l : Nat} {v : Option jV} {σ' : jS} {M : jM} {x y z : Int32} {h : jH}
theorem jx_le {x : Int32} {k : Nat} (h0 : 0 ≤ x) (hk : k < 2147483648) (h1 : x ≤ jn k) : x.toNatClampNeg ≤ k := by
  rw [← jx_of h0, jn_le (jx_lt x) hk] at h1
  exact h1
theorem c23' {i : Nat} {h : jH} {M : jM} : jE (d + 1) 23 0 [some (.inr (.inr (some (1, (0, i))))), none, none] [] (n, ([], sH M i h)) v σ' ↔ v = some (.inl (hBnd h)) ∧ σ' = (n, ([], sH M i h)) := c23
/-- season -/
theorem l114 (w : hOk K a b l (gH M 1)) : ∃ M1, iEq M M1 ∧ jE (d + 20) 114 0 (lw [.inl x, .inl y, .inl z]) [] (n, ([], M)) (some (.inl (lwSeason (gH M 1) x y z))) (n, ([], M1)) := by
  by_cases h1 : 0 ≤ x ∧ x ≤ 9999
  · by_cases h2 : 1 ≤ y ∧ y ≤ 40
    · by_cases h3 : 0 ≤ z ∧ z ≤ 1
      · have hy0 : 0 ≤ y := Int32.le_trans (by decide) h2.1
        have ex := jx_of h1.1
        have ey := jx_of hy0
        have hx := jx_le h1.1 (k := 9999) (by omega) h1.2
        have hy := jx_le hy0 (k := 40) (by omega) h2.2
        obtain ⟨nv', e⟩ := c5 (d := d + 14) (n := n) (M := M) hx hy w
        rw [ex, ey] at e
        have hi := fun (v : Option jV) (σ' : jS) => jE_iff (v := v) (σ' := σ') e
        refine ⟨_, iEq_tr (iEq_sN (q := 11) (h := nv') (by decide)) (iEq_sH (i := 15) (h := csRun x y.toNatClampNeg 0 (gH M 1)) (Or.inr (by decide))), jE_of (fun v σ' => ?_)⟩
        unfold lwSeason
        rw [if_pos ⟨h1, h2, h3⟩]
        simp only [lw, List.map_cons, List.map_nil, s114_0, s114_1, s114_2, s114_5, s114_8, s114_11, s114_12, s114_13, s114_15, s114_18, s114_21, s114_22, s114_23, s114_24, s114_27, s114_30, s114_31, s114_32, s114_33, s114_36, s114_37, s114_40, s114_41, s114_42, s114_45, s114_46, s114_49, s114_50, s114_53, s114_56, s114_59, s114_60, s114_63, s114_66, s114_67, s114_70, s114_71, s114_74, s114_77, s114_80, c120, hi, c23, jcall_eq, Option.toList_some, Option.toList_none, List.cons_append, List.nil_append, jl_0, jl_1, jl_2, jl_3, jl_4, jl_5, jl_6, jl_7, jl_8, jl_9, jl_16, jl_17, jl_18, jl_19, jl_20, jb_0, Classical.not_not, jif, jifN, sH_s15, sH_other (show (1 : Nat) ≠ 15 by decide), sN_1]
        rw [if_pos h1, if_pos h2, if_pos h3]
        rfl
      · refine ⟨M, iEq_rfl M, jE_of (fun v σ' => ?_)⟩
        unfold lwSeason
        rw [if_neg (fun w => h3 w.2.2)]
        simp only [lw, List.map_cons, List.map_nil, s114_0, s114_1, s114_2, s114_5, s114_8, s114_11, s114_12, s114_13, s114_15, s114_18, s114_21, s114_22, s114_23, s114_24, s114_27, s114_30, s114_31, c120, jcall_eq, Option.toList_some, Option.toList_none, List.cons_append, List.nil_append, jb_0, Classical.not_not, jifN]
        rw [if_pos h1, if_pos h2, if_neg h3]
    · refine ⟨M, iEq_rfl M, jE_of (fun v σ' => ?_)⟩
      unfold lwSeason
      rw [if_neg (fun w => h2 w.2.1)]
      simp only [lw, List.map_cons, List.map_nil, s114_0, s114_1, s114_2, s114_5, s114_8, s114_11, s114_12, s114_13, s114_15, s114_18, s114_30, s114_31, c120, jcall_eq, Option.toList_some, Option.toList_none, List.cons_append, List.nil_append, jb_0, Classical.not_not, jifN]
      rw [if_pos h1, if_neg h2]
  · refine ⟨M, iEq_rfl M, jE_of (fun v σ' => ?_)⟩
    unfold lwSeason
    rw [if_neg (fun w => h1 w.1)]
    simp only [lw, List.map_cons, List.map_nil, s114_0, s114_1, s114_2, s114_5, s114_8, s114_30, s114_31, c120, jcall_eq, Option.toList_some, Option.toList_none, List.cons_append, List.nil_append, jb_0, Classical.not_not, jifN]
    rw [if_neg h1]
/-- count -/
def lwCount (M : jM) (x : Int32) : Int32 :=
  if x.toInt = 0 then gH M 1 10 10 else if x.toInt = 1 then gH M 1 10 11 else if x.toInt = 2 then gH M 1 10 12 else if x.toInt = 3 then gH M 1 10 13 else if x.toInt = 4 then gH M 1 10 14 else if x.toInt = 5 then gH M 1 10 15 else if x.toInt = 6 then hClq (gH M 1) else if x.toInt = 7 then hBnd (gH M 1) else if x.toInt = 8 then M 8 (0, 0) 2 else if x.toInt = 9 then M 2 (0, 0) 2 else if x.toInt = 10 then M 2 (0, 1) 2 else if x.toInt = 11 then M 9 (0, 0) 2 else -1
theorem c22M : jE (d + 1) 22 0 [some (.inr (.inr (some (1, (0, 1))))), none, none] [] (n, ([], M)) v σ' ↔ v = some (.inl (hClq (gH M 1))) ∧ σ' = (n, ([], M)) := by
  have h := c22 (d := d) (n := n) (i := 1) (M := M) (h := gH M 1) (v := v) (σ' := σ')
  rw [sH_self] at h
  exact h
theorem c23M : jE (d + 1) 23 0 [some (.inr (.inr (some (1, (0, 1))))), none, none] [] (n, ([], M)) v σ' ↔ v = some (.inl (hBnd (gH M 1))) ∧ σ' = (n, ([], M)) := by
  have h := c23 (d := d) (n := n) (i := 1) (M := M) (h := gH M 1) (v := v) (σ' := σ')
  rw [sH_self] at h
  exact h
theorem c25M : jE (d + 2) 25 0 [some (.inr (.inr (some (1, (0, 1)))))] [] (n, ([], M)) v σ' ↔ v = some (.inl (jb (hCanOpen (gH M 1)))) ∧ σ' = (n, ([], M)) := by
  have h := c25 (d := d) (n := n) (i := 1) (M := M) (h := gH M 1) (v := v) (σ' := σ')
  rw [sH_self] at h
  exact h
theorem l117 : jE (d + 20) 117 0 (lw [.inl x]) [] (n, ([], M)) v σ' ↔ v = some (.inl (lwCount M x)) ∧ σ' = (n, ([], M)) := by
  simp only [lw, List.map_cons, List.map_nil, s117_0, s117_1, s117_64, s117_65, s117_68, s117_71, s117_72, s117_73, s117_76, s117_79, s117_80, s117_81, s117_84, s117_87, s117_88, s117_89, s117_92, s117_95, s117_96, s117_97, s117_100, s117_103, s117_104, s117_105, s117_108, s117_111, s117_112, s117_113, s117_116, s117_119, s117_120, s117_121, s117_124, s117_127, s117_128, s117_129, s117_132, s117_135, s117_136, s117_137, s117_140, s117_143, s117_144, s117_145, s117_148, s117_151, s117_152, s117_153, s117_156, s117_159, s117_160, s117_161, c22M, c23M, jcall_eq, Option.toList_some, Option.toList_none, List.cons_append, List.nil_append, jif]
  rfl
/-- what the search for the shortest bill tells -/
def lwSoon (H : jH) (a : Nat) (x y : Int32) : Int32 :=
  if (0 ≤ x ∧ x ≤ 255) ∧ (0 ≤ y ∧ y ≤ 7) then
    (if (exBest H a x).2.1 = 0 ∨ (exBest H a x).2.1 < y.toNatClampNeg then -4 else if y = 0 then (exBest H a x).2.2 else (exBest H a x).1 (y.toNatClampNeg - 1))
  else -1
def shK (k : Nat) (a : jA) (s : Nat) : Prop := shFix k a
theorem l104_tell {o : (Nat → Int32) × (Nat × Int32)} (r : sR M o) (h2 : 0 ≤ y ∧ y ≤ 7) : jE (d + 20) 104 39 (lw [.inl x, .inl y]) [] (n, ([], M)) v σ' ↔ v = some (.inl (if o.2.1 = 0 ∨ o.2.1 < y.toNatClampNeg then -4 else if y = 0 then o.2.2 else o.1 (y.toNatClampNeg - 1))) ∧ σ' = (n, ([], M)) := by
  obtain ⟨r1, r2, r3, r4⟩ := r
  have ey := jx_of h2.1
  have hy := jx_le h2.1 (k := 7) (by omega) h2.2
  have e1 : (jn o.2.1 = 0) ↔ o.2.1 = 0 := jn_eq (k := o.2.1) (l := 0) (by omega) (by omega)
  have e2 : (y ≤ jn o.2.1) ↔ ¬ o.2.1 < y.toNatClampNeg := by
    conv => lhs; rw [← ey]
    rw [jn_le (jx_lt y) (by omega)]
    omega
  simp only [lw, List.map_cons, List.map_nil, s104_39, s104_40, s104_43, s104_46, s104_49, s104_50, s104_51, s104_54, s104_57, s104_60, s104_62, s104_63, s104_64, s104_67, s104_68, s104_71, s104_74, s104_77, s104_78, s104_81, s104_84, s104_85, s104_86, s104_87, s104_90, c59, jcall_eq, Option.toList_some, Option.toList_none, List.cons_append, List.nil_append, r2, r3, jl_33, jif, e1, e2, jifN]
  by_cases h3 : o.2.1 = 0
  · rw [if_pos h3, if_pos (Or.inl h3)]
  · rw [if_neg h3]
    by_cases h4 : o.2.1 < y.toNatClampNeg
    · rw [if_pos h4, if_pos (Or.inr h4)]
    · rw [if_neg h4, if_neg (show ¬ (o.2.1 = 0 ∨ o.2.1 < y.toNatClampNeg) from fun z => z.elim h3 h4)]
      by_cases h5 : y = 0
      · rw [if_pos h5, if_pos h5]
      · rw [if_neg h5, if_neg h5]
        have h6 : y.toNatClampNeg ≠ 0 := fun z => h5 (by rw [← ey, z]; rfl)
        have e3 : y - 1 = jn (y.toNatClampNeg - 1) := by
          conv => lhs; rw [← ey, show y.toNatClampNeg = y.toNatClampNeg - 1 + 1 by omega]
          exact jn_sub1 _
        rw [e3, rg_in (by omega) (by omega), r4 _ (by omega)]
/-- soonest -/
theorem l104 {t : Nat} (w : hOk K a b l (gH M 1)) (w6 : I6 t a b M) (ht : t < 1000000) : ∃ M1, eqO shK M M1 ∧ I6 t a b M1 ∧ jE (d + 20) 104 0 (lw [.inl x, .inl y]) [] (n, ([], M)) (some (.inl (lwSoon (gH M 1) a x y))) (n, ([], M1)) := by
  have w1 := w.1
  by_cases h1 : 0 ≤ x ∧ x ≤ 255
  · by_cases h2 : 0 ≤ y ∧ y ≤ 7
    · obtain ⟨M1, e1, e2, e3, e4⟩ : ∃ M1, eqO shK M M1 ∧ I6 t a b M1 ∧ (jE (d + 19) 69 0 [some (.inr (.inr (some (7, (0, 0))))), some (.inr (.inr (some (1, (0, 1))))), some (.inl x), some (.inl (M 10 (0, 0) 10))] [] (n, ([], M)) none (n, ([], M1))) ∧ sR M1 (exBest (gH M 1) a x) := by
        obtain ⟨⟨q1, q2, q3⟩, q4, q5⟩ := id w6
        by_cases hx : x = M 7 (0, 0) 5 ∧ M 10 (0, 0) 10 = M 7 (0, 0) 6
        · refine ⟨M, eqO_rfl _ M, w6, (c69_old hx.1 hx.2).mpr ⟨rfl, rfl⟩, ?_⟩
          rcases q4 with z | ⟨t', z1, z2, z3⟩
          · rw [q1, z] at hx
            exact absurd hx.2 (jn_ne4 (by omega))
          · rw [q1, z2] at hx
            rw [hx.1]
            exact z3 ((jn_inj (by omega) (by omega) hx.2).symm)
        · obtain ⟨M1, e1, e2, e3, e4⟩ := c69_new (d := d + 7) (n := n) (M := M) (x := x) (y := M 10 (0, 0) 10) (by omega) w.2.1.1 hx q2
          have ee : eqO shK M M1 := fun k a s z => by rw [e2 k a z]
          have eg : gH M1 1 = gH M 1 := eqO_gH ee (fun f s hf => by unfold shK shFix; simp <;> omega) (fun s => by unfold shK shFix; simp)
          refine ⟨M1, ee, ?_, e1, e4⟩
          unfold I6
          rw [eg, ee 10 (0, 0) 10 (by unfold shK shFix; simp), ee 11 (0, 0) 25 (by unfold shK shFix; simp), ee 3 (0, 0) 4 (by unfold shK shFix; simp), ee 3 (0, 0) 3 (by unfold shK shFix; simp), show M1 12 (34, 0) = M 12 (34, 0) from e2 12 (34, 0) (by unfold shFix; simp)]
          refine ⟨⟨q1, ?_, q3⟩, Or.inr ⟨t, Nat.le_refl t, by rw [e3.2, q1], fun _ => by rw [e3.1]; exact e4⟩, q5⟩
          rw [gN_eq ee (fun f s h1 h2 => by unfold shK shFix; simp <;> omega) (by unfold shK shFix; simp)]
          exact q2
      refine ⟨M1, e1, e2, jE_of (fun v σ' => ?_)⟩
      have hi := fun (v : Option jV) (σ' : jS) => jE_iff (v := v) (σ' := σ') e3
      have hl := fun (v : Option jV) (σ' : jS) => l104_tell (d := d) (n := n) (x := x) (v := v) (σ' := σ') e4 h2
      simp only [lw, List.map_cons, List.map_nil] at hl
      unfold lwSoon
      rw [if_pos ⟨h1, h2⟩]
      simp only [lw, List.map_cons, List.map_nil, s104_0, s104_1, s104_2, s104_5, s104_8, s104_11, s104_12, s104_13, s104_15, s104_18, s104_23, s104_24, s104_27, s104_28, s104_31, s104_32, s104_33, s104_36, c120, hi, jcall_eq, Option.toList_some, Option.toList_none, List.cons_append, List.nil_append, jb_0, Classical.not_not, jifN]
      rw [if_pos h1, if_pos h2]
      exact hl v σ'
    · refine ⟨M, eqO_rfl _ M, w6, jE_of (fun v σ' => ?_)⟩
      unfold lwSoon
      rw [if_neg (fun z => h2 z.2)]
      simp only [lw, List.map_cons, List.map_nil, s104_0, s104_1, s104_2, s104_5, s104_8, s104_11, s104_12, s104_13, s104_15, s104_18, s104_21, s104_22, c120, jcall_eq, Option.toList_some, Option.toList_none, List.cons_append, List.nil_append, jb_0, Classical.not_not, jifN]
      rw [if_pos h1, if_neg h2]
  · refine ⟨M, eqO_rfl _ M, w6, jE_of (fun v σ' => ?_)⟩
    unfold lwSoon
    rw [if_neg (fun z => h1 z.1)]
    simp only [lw, List.map_cons, List.map_nil, s104_0, s104_1, s104_2, s104_5, s104_8, s104_21, s104_22, c120, jcall_eq, Option.toList_some, Option.toList_none, List.cons_append, List.nil_append, jb_0, Classical.not_not, jifN]
    rw [if_neg h1]
/-- what the search for the best line leaves as it was -/
def liK (k : Nat) (a : jA) (s : Nat) : Prop := ¬ (k = 12 ∧ a.1 < 10 ∧ a.2 = 13) ∧ ¬ (k = 1 ∧ a.2 = 13) ∧ ¬ (k = 12 ∧ 16 ≤ a.1 ∧ a.1 < 21 ∧ a.2 = 9) ∧ ¬ (k = 4 ∧ a.2 = 9) ∧ k ≠ 3 ∧ ¬ (k = 12 ∧ a = (34, 0))
def lwSeatg (H : jH) (c0 : Nat → Int32) (b : Nat) (x : Int32) : Int32 :=
  if x = -1 then (lfBest H c0 b).2 else if 0 ≤ x ∧ x ≤ H 10 11 - 1 then (lfBest H c0 b).1 x.toNatClampNeg else -1
theorem lw_seat {h : jH} (w : hOk K a b l h) : (0 ≤ x ∧ x ≤ h 10 11 - 1) ↔ ∃ s, s < b ∧ x = jn s := by
  have w1 := w.1
  have e : jn b - 1 = jn (b - 1) := by
    conv => lhs; rw [show b = b - 1 + 1 by omega]
    exact jn_sub1 _
  rw [w.2.1.2.1, e]
  constructor
  · intro z
    exact ⟨x.toNatClampNeg, by have := jx_le z.1 (by omega) z.2; omega, (jx_of z.1).symm⟩
  · rintro ⟨s, hs, rfl⟩
    exact ⟨jn_pos (by omega), (jn_le (by omega) (by omega)).mpr (by omega)⟩
theorem lw_scene {h : jH} (w : hOk K a b l h) : (0 ≤ x ∧ x ≤ h 10 10 - 1) ↔ ∃ s, s < a ∧ x = jn s := by
  have w1 := w.1
  have e : jn a - 1 = jn (a - 1) := by
    conv => lhs; rw [show a = a - 1 + 1 by omega]
    exact jn_sub1 _
  rw [w.2.1.1, e]
  constructor
  · intro z
    exact ⟨x.toNatClampNeg, by have := jx_le z.1 (by omega) z.2; omega, (jx_of z.1).symm⟩
  · rintro ⟨s, hs, rfl⟩
    exact ⟨jn_pos (by omega), (jn_le (by omega) (by omega)).mpr (by omega)⟩
theorem mL_k2 {c : Nat → Int32} {s : Int32} {k : Nat} {y : jA} {j : Nat} (h1 : ¬ (k = 12 ∧ y = (34, 0))) (h2 : k ≠ 3) : mL M c s k y j = M k y j := by
  unfold mL
  rw [if_neg (fun z => h1 ⟨z.1, z.2.1⟩), if_neg (fun z => h2 z.1)]
/-- seating -/
theorem l105 {t : Nat} (w : hOk K a b l (gH M 1)) (w6 : I6 t a b M) (ht : t < 1000000) : ∃ M1 c0, eqO liK M M1 ∧ I6 t a b M1 ∧ jE (d + 20) 105 0 (lw [.inl x]) [] (n, ([], M)) (some (.inl (lwSeatg (gH M 1) c0 b x))) (n, ([], M1)) := by
  have w1 := w.1
  by_cases h1 : x = -1 ∨ (0 ≤ x ∧ x ≤ gH M 1 10 11 - 1)
  · obtain ⟨M1, c0, e1, e2, e3, e4, e5⟩ : ∃ M1 c0, eqO liK M M1 ∧ I6 t a b M1 ∧ (jE (d + 19) 34 0 [some (.inr (.inr (some (3, (0, 0))))), some (.inr (.inr (some (1, (0, 1))))), some (.inl (M 10 (0, 0) 10)), none, none, none] [] (n, ([], M)) none (n, ([], M1))) ∧ M1 3 (0, 0) 3 = (lfBest (gH M 1) c0 b).2 ∧ ∀ i, i < b → M1 12 (34, 0) i = (lfBest (gH M 1) c0 b).1 i := by
      obtain ⟨⟨q1, q2, q3⟩, q4, q5⟩ := id w6
      by_cases hx : M 10 (0, 0) 10 = M 3 (0, 0) 4
      · rcases q5 with z | ⟨t', z1, z2, z3⟩
        · rw [q1, z] at hx
          exact absurd hx (jn_ne4 (by omega))
        · have hx2 := hx
          rw [q1, z2] at hx2
          obtain ⟨c0, z4, z5⟩ := z3 ((jn_inj (by omega) (by omega) hx2).symm)
          exact ⟨M, c0, eqO_rfl _ M, w6, (c34_old hx).mpr ⟨rfl, rfl⟩, z4, z5⟩
      · obtain ⟨h', nv', e⟩ := c34_new (d := d + 14) (n := n) (M := M) (x := M 10 (0, 0) 10) w.2.1.2.1 (by omega) (by omega) hx
        generalize hM1 : sH (sN (mL (jUp M 3 (0, 0) 4 (M 10 (0, 0) 10)) (lfBest (gH M 1) (M 12 (34, 0)) b).1 (lfBest (gH M 1) (M 12 (34, 0)) b).2) 9 nv') 13 h' = M1 at e
        have ee : eqO liK M M1 := by
          rw [← hM1]
          refine eqO_tr (eqO_tr (eqO_tr (eqO_up (k := 3) (a := (0, 0)) (s := 4) (x := M 10 (0, 0) 10) (by unfold liK; simp)) (fun k y s z => ?_)) (eqO_sN (by intro f s _ _; unfold liK; simp <;> omega) (by intro s; unfold liK; simp))) (eqO_sH (by intro f s _; unfold liK; simp <;> omega) (by intro s; unfold liK; simp))
          exact mL_k2 (fun q => z.2.2.2.2.2 q) z.2.2.2.2.1
        have eg : gH M1 1 = gH M 1 := eqO_gH ee (fun f s hf => by unfold liK; simp <;> omega) (fun s => by unfold liK; simp)
        have e34 : ∀ i, i < 7 → M1 12 (34, 0) i = (lfBest (gH M 1) (M 12 (34, 0)) b).1 i := by
          intro i hi
          rw [← hM1, sH_N (by decide), sN_R (by decide)]
          unfold mL
          rw [if_pos ⟨rfl, rfl, hi⟩]
        have e33 : M1 3 (0, 0) 3 = (lfBest (gH M 1) (M 12 (34, 0)) b).2 := by
          rw [← hM1, sH_k (by decide) (by decide), sN_k _ _ _ (by decide) (by decide), mL_s]
        have e344 : M1 3 (0, 0) 4 = M 10 (0, 0) 10 := by
          rw [← hM1, sH_k (by decide) (by decide), sN_k _ _ _ (by decide) (by decide), mL_4, jUp_at]
        refine ⟨M1, M 12 (34, 0), ee, ?_, e, e33, fun i hi => e34 i (by omega)⟩
        unfold I6
        rw [eg, ee 10 (0, 0) 10 (by unfold liK; simp), ee 11 (0, 0) 25 (by unfold liK; simp), ee 7 (0, 0) 6 (by unfold liK; simp), ee 7 (0, 0) 5 (by unfold liK; simp)]
        refine ⟨⟨q1, ?_, q3⟩, ?_, Or.inr ⟨t, Nat.le_refl t, by rw [e344, q1], fun _ => ⟨M 12 (34, 0), e33, fun i hi => e34 i (by omega)⟩⟩⟩
        · rw [gN_eq ee (fun f s h1 h2 => by unfold liK; simp <;> omega) (by unfold liK; simp)]
          exact q2
        · rcases q4 with z | ⟨t', z1, z2, z3⟩
          · exact Or.inl z
          · exact Or.inr ⟨t', z1, z2, fun z => sR_eq (ee 7 (0, 0) 3 (by unfold liK; simp)) (ee 7 (0, 0) 4 (by unfold liK; simp)) (funext fun s => ee 12 (33, 0) s (by unfold liK; simp)) (z3 z)⟩
    refine ⟨M1, c0, e1, e2, jE_of (fun v σ' => ?_)⟩
    have hi := fun (v : Option jV) (σ' : jS) => jE_iff (v := v) (σ' := σ') e3
    have tell : jE (d + 20) 105 33 (lw [.inl x]) [] (n, ([], M1)) v σ' ↔ v = some (.inl (lwSeatg (gH M 1) c0 b x)) ∧ σ' = (n, ([], M1)) := by
      simp only [lw, List.map_cons, List.map_nil, s105_33, s105_34, s105_35, s105_38, s105_39, s105_42, s105_45, s105_48, s105_49, s105_52, s105_55, s105_56, s105_59, c59, jcall_eq, Option.toList_some, Option.toList_none, List.cons_append, List.nil_append, jl_34, jif, jifN, e4]
      unfold lwSeatg
      by_cases h3 : x = -1
      · rw [if_pos h3, if_pos h3]
      · rw [if_neg h3, if_neg h3]
        have h4 := h1.resolve_left h3
        rw [if_pos h4]
        obtain ⟨s, hs, es⟩ := (lw_seat w).mp h4
        rw [es, jn_clamp (by omega), rg_in (by omega) (by omega), e5 s hs]
    simp only [lw, List.map_cons, List.map_nil] at tell
    have h1' : x = -1 ∨ (0 ≤ x ∧ x ≤ M 1 (0, 1) 11 - 1) := h1
    simp only [lw, List.map_cons, List.map_nil, s105_0, s105_1, s105_2, s105_5, s105_6, s105_9, s105_10, s105_13, s105_16, s105_17, s105_18, s105_19, s105_22, s105_23, s105_26, s105_27, s105_30, c13, hi, jcall_eq, Option.toList_some, Option.toList_none, List.cons_append, List.nil_append, jb_0, Classical.not_not, jifN]
    by_cases h3 : x = -1
    · rw [if_pos h3]
      exact tell
    · rw [if_neg h3, if_pos (h1'.resolve_left h3)]
      exact tell
  · refine ⟨M, M 12 (34, 0), eqO_rfl _ M, w6, jE_of (fun v σ' => ?_)⟩
    unfold lwSeatg
    rw [if_neg (fun z => h1 (Or.inl z)), if_neg (fun z => h1 (Or.inr z))]
    have h1' : ¬ (0 ≤ x ∧ x ≤ M 1 (0, 1) 11 - 1) := fun z => h1 (Or.inr z)
    simp only [lw, List.map_cons, List.map_nil, s105_0, s105_1, s105_2, s105_5, s105_6, s105_9, s105_10, s105_13, s105_16, s105_17, c13, jcall_eq, Option.toList_some, Option.toList_none, List.cons_append, List.nil_append, jb_0, Classical.not_not, jifN]
    rw [if_neg (fun z => h1 (Or.inl z)), if_neg h1']
end JLX
