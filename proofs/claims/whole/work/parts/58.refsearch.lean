/-! the reference: falls, run, claques -/
section JRS1
variable {d n K a b l f : Nat} {v : Option jV} {σ' : jS} {M M' : jM} {x y z : Int32} {h g nv : jH} {c : Nat → Int32}
/-- the house as it is, in the row that is tried -/
theorem rO_take (w : rO K a b l 55 M h) : rO K a b l 60 (mC M (60, 0) (fun j => if j < 39 then M 12 (55, 0) j else M 12 (60, 0) j)) h := by
  have w1 := w.1.1
  exact rO_mC (Or.inr rfl) w.1 w.2.1 (rD_take (by omega) (by omega) (by omega) w.2.2.1)
theorem rO_try {h' : jH} {l' : Nat} (w : rO K a b l 55 M h) (w' : hOk K a b l' h') (e : ∀ r, r = 0 ∨ r = 1 ∨ r = 2 ∨ r = 6 ∨ r = 7 → h' r = h r) (r : rD a b l' c h') : rO K a b l' 60 (mC M (60, 0) c) h' :=
  rO_mC (Or.inr rfl) w' (rS_rows w.2.1 (e 0 (by omega)) (e 1 (by omega)) (e 2 (by omega)) (e 6 (by omega)) (e 7 (by omega))) r
theorem hStrike_f {r : Nat} (h4 : r ≠ 4) (h10 : r ≠ 10) : hStrike h x r = h r := by
  unfold hStrike
  rw [hSc_f h10, nset_ne h4]
theorem hMount_f {r p : Nat} (h4 : r ≠ 4) (h10 : r ≠ 10) : hMount h x p r = h r := by
  unfold hMount
  rw [hSc_f h10, nset_ne h4]
theorem m182_loop (w : rO K a b l 55 M h) (hK : K ≤ 1000000) (hy : M 11 (0, 0) 25 = 0) : ∀ (m k : Nat) (M' : jM) (a2 : Option jV), iEq M M' → k + m = a → ∃ M2, iEq M M2 ∧ jE (d + 20) 182 16 [some (.inr (.inr (some (11, (0, 0))))), some (.inl (jn k)), a2] [] (n, ([], M')) (some (.inl (fkRun h m k))) (n, ([], M2)) := by
  have w1 := w.1.1
  intro m
  induction m with
  | zero =>
    intro k M' a2 e hk
    have w' := rO_iEq e w
    refine ⟨M', e, jE_of (fun v σ' => ?_)⟩
    simp only [s182_16, s182_17, s182_18, s182_21, s182_22, s182_23, jm_42, jk0, ji0 (show 0 < 2 by decide), w'.2.1.1.1]
    rw [if_pos ((jn_le (by omega) (by omega)).mpr (by omega)), s182_72, s182_74]
    rfl
  | succ m ih =>
    intro k M' a2 e hk
    have w' := rO_iEq e w
    have hy' := hy_iEq e hy
    have hne : ¬ jn a ≤ jn k := fun z => absurd ((jn_le (by omega) (by omega)).mp z) (by omega)
    rw [fkRun]
    by_cases h1 : hBilled h (jn k)
    · rw [if_pos h1]
      obtain ⟨p, hp, ep⟩ := (hOk_billed w.1).mp h1
      have e1 := hOk_at w.1 hp ep
      have wt := rO_take w'
      obtain ⟨c', r', et⟩ := r165 (d := d + 19) (n := n) wt hp ep
      simp only [mC_mC] at et
      have wo := rO_try (c := c') w' (hOk_strike w.1 h1) (fun r hr => hStrike_f (by omega) (by omega)) r'
      obtain ⟨g, _, ed⟩ := r155 (d := d + 15) (n := n) (y := 0) wo hK (by rw [mC_k (by decide)]; exact hy')
      have n4 : ¬ jn p = -4 := jn_ne4 (by omega)
      by_cases h2 : hPass (hStrike h (jn k))
      · rw [if_pos h2]
        obtain ⟨M2, e2, ih⟩ := ih (k + 1) (sG (mC M' (60, 0) c') g) (some (.inl (jn p))) (iEq_tr e (iEq_tr iEq_60 iEq_sG)) (by omega)
        refine ⟨M2, e2, ?_⟩
        simp only [s182_16, s182_17, s182_18, s182_21, s182_22, s182_23, s182_26, s182_27, s182_30, s182_31, s182_34, s182_35, s182_36, s182_38, s182_41, s182_42, s182_45, s182_46, s182_49, s182_50, s182_53, s182_54, s182_55, s182_58, s182_61, s182_64, s182_65, s182_66, jm_42, jk0, ji0 (show 0 < 2 by decide), w'.2.1.1.1, hne, if_false, r145 w', e1, n4, r142, et, ed, jcall_eq, Option.toList_some, Option.toList_none, List.cons_append, List.nil_append, jb_0]
        rw [if_pos (fun z => z h2), s182_69, jn_1]
        exact ih
      · rw [if_neg h2]
        refine ⟨sG (mC M' (60, 0) c') g, iEq_tr e (iEq_tr iEq_60 iEq_sG), jE_of (fun v σ' => ?_)⟩
        simp only [s182_16, s182_17, s182_18, s182_21, s182_22, s182_23, s182_26, s182_27, s182_30, s182_31, s182_34, s182_35, s182_36, s182_38, s182_41, s182_42, s182_45, s182_46, s182_49, s182_50, s182_53, s182_54, s182_55, s182_58, s182_61, s182_64, s182_65, s182_66, jm_42, jk0, ji0 (show 0 < 2 by decide), w'.2.1.1.1, hne, if_false, r145 w', e1, n4, r142, et, ed, jcall_eq, Option.toList_some, Option.toList_none, List.cons_append, List.nil_append, jb_0]
        rw [if_neg (fun z => z h2)]
    · rw [if_neg h1]
      have e1 : hOnBill h (jn k) = -4 := Classical.not_not.mp h1
      obtain ⟨M2, e2, ih⟩ := ih (k + 1) M' (some (.inl (-4))) e (by omega)
      refine ⟨M2, e2, ?_⟩
      simp only [s182_16, s182_17, s182_18, s182_21, s182_22, s182_23, s182_26, s182_27, s182_30, s182_31, s182_34, s182_35, s182_36, s182_38, s182_66, jm_42, jk0, ji0 (show 0 < 2 by decide), w'.2.1.1.1, hne, if_false, r145 w', e1, jcall_eq, Option.toList_some, Option.toList_none, List.cons_append, List.nil_append, if_true]
      rw [s182_69, jn_1]
      exact ih
/-- falls -/
theorem m182 (w : rO K a b l 55 M h) (hK : K ≤ 1000000) (hy : M 11 (0, 0) 25 = 0) : ∃ M2, iEq M M2 ∧ jE (d + 20) 182 0 (lm [] ++ [none, none]) [] (n, ([], M)) (some (.inl (fkCut h))) (n, ([], M2)) := by
  obtain ⟨g, _, ed⟩ := r155 (d := d + 15) (n := n) w hK hy
  unfold fkCut
  by_cases h1 : hPass h
  · rw [if_pos h1, hOk_C w.1]
    obtain ⟨M2, e2, e⟩ := m182_loop (d := d) (n := n) w hK hy a 0 (sG M g) none iEq_sG (by omega)
    refine ⟨M2, e2, ?_⟩
    simp only [lm, List.map_nil, s182_0, s182_1, s182_2, s182_5, s182_8, s182_14, s182_15, ed, jcall_eq, Option.toList_some, Option.toList_none, List.cons_append, List.nil_append, jb_0]
    rw [if_pos (fun z => z h1)]
    exact e
  · rw [if_neg h1]
    refine ⟨sG M g, iEq_sG, jE_of (fun v σ' => ?_)⟩
    simp only [lm, List.map_nil, s182_0, s182_1, s182_2, s182_5, s182_8, s182_11, s182_13, ed, jcall_eq, Option.toList_some, Option.toList_none, List.cons_append, List.nil_append, jb_0]
    rw [if_neg (fun z => z h1)]
/-- run: the scenes are known one night better -/
theorem m183_tire (w : hOk K a b l h) {a1 : Option jV} : ∀ (m k : Nat) (c : Nat → Int32), k + m = l → c 7 = jn l → (∀ i, i < l → c i = h 4 i) → (jE d 183 28 [some (.inr (.inr (some (11, (0, 0))))), a1, some (.inl (jn k))] [] (n, ([], sG (mC M (60, 0) c) g)) v σ' ↔ jE d 183 65 [some (.inr (.inr (some (11, (0, 0))))), a1, some (.inl (jn l))] [] (n, ([], sG (mC M (60, 0) (jfor (mT1 h) m k c)) g)) v σ') := by
  have w1 := w.1
  intro m
  induction m with
  | zero =>
    intro k c hk h7 hc
    have hr := sG_r (mC M (60, 0) c) g (f := 60) (by omega)
    simp only [s183_28, s183_29, s183_30, s183_33, s183_35, s183_36, jm_60, jk7, ji7 (show 7 < 39 by decide), hr, mC_at, h7]
    rw [if_pos ((jn_le (by omega) (by omega)).mpr (by omega)), show k = l by omega]
    rfl
  | succ m ih =>
    intro k c hk h7 hc
    have hr := sG_r (mC M (60, 0) c) g (f := 60) (by omega)
    obtain ⟨hb1, hb2⟩ := rO_bl w (show k < l by omega)
    simp only [s183_28, s183_29, s183_30, s183_33, s183_35, s183_36, jm_60, jk7, ji7 (show 7 < 39 by decide), hr, mC_at, h7]
    rw [if_neg (fun z => absurd ((jn_le (by omega) (by omega)).mp z) (by omega))]
    have up : ∀ x, mC (sG (mC M (60, 0) c) g) (60, 0) (upd c (32 + bl h k) x) = sG (mC M (60, 0) (upd c (32 + bl h k) x)) g := fun x => by rw [mC_sG (Or.inr rfl), mC_mC]
    simp (disch := omega) only [s183_39, s183_40, s183_43, s183_45, s183_46, s183_49, s183_50, s183_51, s183_52, s183_53, s183_54, s183_55, s183_56, s183_57, s183_58, s183_59, jm_60, hr, mC_at, jnA0, jnA32, jiz, jcl, hc k (by omega), hb2, mC_up, up]
    rw [s183_62, jn_1, jfor]
    refine ih (k + 1) _ (by omega) ?_ (fun i hi => ?_)
    · exact (if_neg (by omega)).trans h7
    · exact (if_neg (by omega)).trans (hc i hi)
theorem m183_loop (w0 : rO K a b l 55 M h) (hy : M 11 (0, 0) 25 = 0) : ∀ (m k K' : Nat) (h' : jH) (M' : jM) (a2 : Option jV), iEq M M' → k + m = 30 → K' + 7 * m ≤ 1000000 → rO K' a b l 60 M' h' → ∃ M2, iEq M M2 ∧ jE (d + 20) 183 6 [some (.inr (.inr (some (11, (0, 0))))), some (.inl (jn k)), a2] [] (n, ([], M')) (some (.inl (jn (naRun m k h')))) (n, ([], M2)) := by
  have w1 := w0.1.1
  intro m
  induction m with
  | zero =>
    intro k K' h' M' a2 e hk hK w
    refine ⟨M', e, jE_of (fun v σ' => ?_)⟩
    simp only [s183_6, s183_7, s183_9]
    rw [if_pos (show (30 : Int32) ≤ jn k from (jn_le (k := 30) (by omega) (by omega)).mpr (by omega)), s183_68, s183_69]
    rfl
  | succ m ih =>
    intro k K' h' M' a2 e hk hK w
    have hy' := hy_iEq e hy
    obtain ⟨g, _, ed⟩ := r155 (d := d + 15) (n := n) w (by omega) hy'
    have hne : ¬ (30 : Int32) ≤ jn k := fun z => absurd ((jn_le (k := 30) (by omega) (by omega)).mp z) (by omega)
    rw [naRun]
    by_cases h1 : hPass h'
    · rw [if_pos h1]
      have r' := same_tire w.1 w.2.2.1 rfl (hOk_B w.1)
      have wn : rO (K' + 7) a b l 60 (sG (mC M' (60, 0) (jfor (mT1 h') l 0 (M' 12 (60, 0)))) g) (hTire h') := rO_sG g (rO_mC (Or.inr rfl) (hOk_tire w.1) (rS_rows w.2.1 (hTire_f (by decide)) (hTire_f (by decide)) (hTire_f (by decide)) (hTire_f (by decide)) (hTire_f (by decide))) r')
      obtain ⟨M2, e2, ih⟩ := ih (k + 1) (K' + 7) (hTire h') _ (some (.inl (jn l))) (iEq_tr e (iEq_tr iEq_60 iEq_sG)) (by omega) (by omega) wn
      refine ⟨M2, e2, ?_⟩
      simp only [s183_6, s183_7, s183_9, s183_12, s183_13, s183_14, s183_17, s183_20, s183_23, s183_26, s183_27, hne, if_false, ed, jcall_eq, Option.toList_some, Option.toList_none, List.cons_append, List.nil_append, jb_0]
      rw [if_neg (fun z => z h1)]
      have t := m183_tire (d := d + 20) (n := n) (M := M') (g := g) (a1 := some (.inl (jn k + 1))) (v := some (.inl (jn (naRun m (k + 1) (hTire h'))))) (σ' := (n, ([], M2))) w.1 l 0 (M' 12 (60, 0)) (by omega) (w.2.2.1.2.1.1.trans w.1.2.1.2.2) w.2.2.1.1
      rw [mC_self] at t
      refine t.mpr ?_
      rw [s183_65, jn_1]
      exact ih
    · rw [if_neg h1]
      refine ⟨sG M' g, iEq_tr e iEq_sG, jE_of (fun v σ' => ?_)⟩
      simp only [s183_6, s183_7, s183_9, s183_12, s183_13, s183_14, s183_17, s183_20, s183_68, s183_69, hne, if_false, ed, jcall_eq, Option.toList_some, Option.toList_none, List.cons_append, List.nil_append, jb_0]
      rw [if_pos h1]
theorem m183 (w : rO K a b l 55 M h) (hK : K ≤ 900000) (hy : M 11 (0, 0) 25 = 0) : ∃ M2, iEq M M2 ∧ jE (d + 20) 183 0 (lm [] ++ [none, none]) [] (n, ([], M)) (some (.inl (jn (naRun 30 0 h)))) (n, ([], M2)) := by
  obtain ⟨M2, e2, e⟩ := m183_loop (d := d) (n := n) w hy 30 0 K h _ none iEq_60 (by omega) (by omega) (rO_take w)
  refine ⟨M2, e2, ?_⟩
  simp only [lm, List.map_nil, s183_0, s183_1, s183_4, s183_5, r142, jcall_eq, Option.toList_some, Option.toList_none, List.cons_append, List.nil_append]
  exact e
/-- claques: the set's seats, as claques -/
theorem m181_in (w : rO K a b l 55 M h) {a2 : Option jV} : ∀ (m k : Nat) (h' : jH) (c : Nat → Int32), k + m = b → rD a b l c h' → (∀ s, k ≤ s → s < b → h' 5 s = h 5 s) → ∃ c', rD a b l c' (jfor (hClaq1 x) m k h') ∧ ∀ (v : Option jV) (σ' : jS), jE d 181 52 [some (.inr (.inr (some (11, (0, 0))))), some (.inl y), a2, some (.inl x), some (.inl (jn k))] [] (n, ([], mC M (60, 0) c)) v σ' ↔ jE d 181 103 [some (.inr (.inr (some (11, (0, 0))))), some (.inl y), a2, some (.inl x), some (.inl (jn b))] [] (n, ([], mC M (60, 0) c')) v σ' := by
  have w1 := w.1.1
  intro m
  induction m with
  | zero =>
    intro k h' c hk r h5
    refine ⟨c, r, fun v σ' => ?_⟩
    simp only [s181_52, s181_54, s181_55, s181_58, s181_59, s181_60, jm_46, jk0, ji0 (show 0 < 2 by decide), mC_ne (show ((46, 0) : jA) ≠ (60, 0) by decide), w.2.1.1.2]
    rw [if_pos ((jn_le (by omega) (by omega)).mpr (by omega)), show k = b by omega]
  | succ m ih =>
    intro k h' c hk r h5
    have e0 : rD a b l (upd c (11 + k) (if x >>> (jn k &&& 31) &&& 1 = 1 then 3 else h 5 k)) (hClaq1 x k h') := by
      have q := rD_row (x := if x >>> (jn k &&& 31) &&& 1 = 1 then 3 else h 5 k) (r := 5) (o := 11) (k := k) (by omega) (by omega) r (by omega) (by omega)
      have e : nset h' 5 (upd (h' 5) k (if x >>> (jn k &&& 31) &&& 1 = 1 then 3 else h 5 k)) = hClaq1 x k h' := by
        unfold hClaq1
        by_cases c1 : x >>> (jn k &&& 31) &&& 1 = 0
        · rw [if_pos c1, if_neg (fun z => (and1' _).mp z c1)]
          funext r
          unfold nset upd
          by_cases er : r = 5
          · rw [if_pos er, er]
            funext i
            by_cases ei : i = k
            · rw [if_pos ei, ei, h5 k (by omega) (by omega)]
            · rw [if_neg ei]
          · rw [if_neg er]
        · rw [if_neg c1, if_pos ((and1' _).mpr c1), rs_in (by omega) (by omega)]
      rw [e] at q
      exact q
    obtain ⟨c', r', e⟩ := ih (k + 1) (hClaq1 x k h') _ (by omega) e0 (fun s hs1 hs2 => by
      rw [← h5 s (by omega) hs2]
      unfold hClaq1
      by_cases c1 : x >>> (jn k &&& 31) &&& 1 = 0
      · rw [if_pos c1]
      · rw [if_neg c1, nset_at, rs_in (by omega) (by omega)]
        exact if_neg (by omega))
    refine ⟨c', r', fun v σ' => ?_⟩
    simp only [s181_52, s181_54, s181_55, s181_58, s181_59, s181_60, jm_46, jk0, ji0 (show 0 < 2 by decide), mC_ne (show ((46, 0) : jA) ≠ (60, 0) by decide), w.2.1.1.2]
    rw [if_neg (fun z => absurd ((jn_le (by omega) (by omega)).mp z) (by omega))]
    simp (disch := omega) only [s181_63, s181_64, s181_67, s181_69, s181_71, s181_72, s181_73, s181_75, s181_76, s181_77, s181_78, s181_79, s181_82, s181_83, s181_86, s181_87, s181_90, s181_92, s181_94, s181_95, s181_96, s181_97, jm_55, jm_60, jnA11, jiz, jcl, mC_ne (show ((55, 0) : jA) ≠ (60, 0) by decide), (w.2.2.1.2.2.1 k (by omega)).1, mC_up, mC_at, mC_mC, jifN]
    rw [s181_100, s181_100, jn_1, ← e v σ']
    by_cases c1 : x >>> (jn k &&& 31) &&& 1 = 1
    · rw [if_pos c1, if_pos c1]
    · rw [if_neg c1, if_neg c1]
theorem hClaq_f {set : Int32} {r : Nat} (h5 : r ≠ 5) : ∀ (m k : Nat) (X : jH), jfor (hClaq1 set) m k X r = X r
  | 0, _, _ => rfl
  | m + 1, k, X => by
    rw [jfor, hClaq_f h5 m (k + 1)]
    unfold hClaq1
    by_cases c1 : set >>> (jn k &&& 31) &&& 1 = 0
    · rw [if_pos c1]
    · rw [if_neg c1, nset_ne h5]
theorem hOk_set5 {c : Nat → Int32} (w : hOk K a b l h) (hc : cBd b 0 3 c) : hOk K a b l (nset h 5 c) := by
  refine ⟨w.1, ?_, ?_, ?_, ?_, ?_⟩
  · rw [nset_ne (by decide)]; exact w.2.1
  · rw [nset_ne (by decide)]; exact w.2.2.1
  · rw [nset_ne (by decide)]; exact w.2.2.2.1
  · rw [nset_ne (by decide), nset_ne (by decide), nset_ne (by decide), nset_ne (by decide)]; exact w.2.2.2.2.1
  · rw [nset_at, nset_ne (by decide), nset_ne (by decide), nset_ne (by decide)]
    exact ⟨hc, w.2.2.2.2.2.2⟩
theorem hOk_claq {set : Int32} (w : hOk K a b l h) : hOk K a b l (hClaq h set) := by
  unfold hClaq
  refine jfor_inv (P := hOk K a b l) _ 0 h (fun k g _ _ wg => ?_) w
  unfold hClaq1
  by_cases c1 : set >>> (jn k &&& 31) &&& 1 = 0
  · rw [if_pos c1]; exact wg
  · rw [if_neg c1]
    exact hOk_set5 wg (cBd_put (k := 3) wg.2.2.2.2.2.1 (by omega) (by omega))
theorem hSets_eq (w : hOk K a b l h) : hSets h = 2 ^ b ∧ (1 <<< (jn b &&& 31) : Int32) = jn (2 ^ b) := by
  have w1 := w.1
  have e : ∀ b : Fin 8, (1 <<< (jn b.1 &&& 31) : Int32) = jn (2 ^ b.1) := by decide +kernel
  have e2 : ∀ b : Fin 8, 2 ^ b.1 ≤ 128 := by decide +kernel
  have e3 := e ⟨b, by omega⟩
  have e4 := e2 ⟨b, by omega⟩
  simp only at e3 e4
  refine ⟨?_, e3⟩
  unfold hSets
  rw [w.2.1.2.1, e3, jn_clamp (by omega)]
theorem fc_inv (p : Int32 × Int32) (hp : (p.1 = -4 ∧ p.2 = 8) ∨ (∃ q, q < 128 ∧ p.1 = jn q ∧ p.2 = bts (jn q))) {k : Nat} (hk : k < 128) : bc (jn k) < p.2 ↔ (p.1 = -4 ∨ bts (jn k) < bts p.1) := by
  rw [bc_bts (by omega)]
  have h8 : ∀ k : Fin 128, bts (jn k.1) < 8 := by decide +kernel
  rcases hp with ⟨h1, h2⟩ | ⟨q, h1, h2, h3⟩
  · rw [h1, h2]
    exact ⟨fun _ => Or.inl rfl, fun _ => h8 ⟨k, hk⟩⟩
  · rw [h2, h3]
    exact ⟨fun z => Or.inr z, fun z => z.elim (fun q2 => absurd q2 (jn_ne4 (by omega))) id⟩
theorem m181_loop (w : rO K a b l 55 M h) (hK : K ≤ 1000000) (hy : M 11 (0, 0) 25 = 0) : ∀ (m k : Nat) (p : Int32 × Int32) (M' : jM) (a4 : Option jV), iEq M M' → k + m = 2 ^ b → ((p.1 = -4 ∧ p.2 = 8) ∨ (∃ q, q < 128 ∧ p.1 = jn q ∧ p.2 = bts (jn q))) → ∃ M2 a3' a4', iEq M M2 ∧ ∀ (v : Option jV) (σ' : jS), jE (d + 20) 181 16 [some (.inr (.inr (some (11, (0, 0))))), some (.inl y), some (.inl p.1), some (.inl (jn k)), a4] [] (n, ([], M')) v σ' ↔ jE (d + 20) 181 126 [some (.inr (.inr (some (11, (0, 0))))), some (.inl y), some (.inl (jfor (fcStep h) m k p).1), a3', a4'] [] (n, ([], M2)) v σ' := by
  have w1 := w.1.1
  obtain ⟨-, hpow⟩ := hSets_eq w.1
  have hp128 : 2 ^ b ≤ 128 := by
    have e2 : ∀ b : Fin 8, 2 ^ b.1 ≤ 128 := by decide +kernel
    exact e2 ⟨b, by omega⟩
  intro m
  induction m with
  | zero =>
    intro k p M' a4 e hk hp
    have w' := rO_iEq e w
    refine ⟨M', some (.inl (jn k)), a4, e, fun v σ' => ?_⟩
    simp only [s181_16, s181_17, s181_18, s181_19, s181_22, s181_23, s181_24, s181_25, jm_46, jk0, ji0 (show 0 < 2 by decide), w'.2.1.1.2, hpow]
    rw [if_pos ((jn_le (by omega) (by omega)).mpr (by omega))]
    rfl
  | succ m ih =>
    intro k p M' a4 e hk hp
    have w' := rO_iEq e w
    have hy' := hy_iEq e hy
    have hne : ¬ jn (2 ^ b) ≤ jn k := fun z => absurd ((jn_le (by omega) (by omega)).mp z) (by omega)
    have hcond := fc_inv p hp (show k < 128 by omega)
    rw [jfor]
    have es : fcStep h k p = if bc (jn k) < p.2 then (if hPass (hClaq h (jn k)) then (jn k, bc (jn k)) else p) else p := rfl
    by_cases h1 : bc (jn k) < p.2
    · rw [if_pos h1] at es
      have wt := rO_take w'
      obtain ⟨c', r', ec⟩ := m181_in (d := d + 20) (n := n) (x := jn k) (y := y) (a2 := some (.inl p.1)) w' b 0 h (fun j => if j < 39 then M' 12 (55, 0) j else M' 12 (60, 0) j) (by omega) (rD_take (by omega) (by omega) (by omega) w'.2.2.1) (fun _ _ _ => rfl)
      have eC : jfor (hClaq1 (jn k)) b 0 h = hClaq h (jn k) := by
        unfold hClaq
        rw [hOk_S w.1]
      rw [eC] at r'
      have wo := rO_try (c := c') w' (hOk_claq (set := jn k) w.1) (fun r hr => hClaq_f (by omega) _ _ _) r'
      obtain ⟨g, _, ed⟩ := r155 (d := d + 15) (n := n) (y := 0) wo hK (by rw [mC_k (by decide)]; exact hy')
      have hd : ∀ (v : Option jV) (σ' : jS), jE (d + 20) 181 16 [some (.inr (.inr (some (11, (0, 0))))), some (.inl y), some (.inl p.1), some (.inl (jn k)), a4] [] (n, ([], M')) v σ' ↔ jE (d + 20) 181 16 [some (.inr (.inr (some (11, (0, 0))))), some (.inl y), some (.inl (if hPass (hClaq h (jn k)) then jn k else p.1)), some (.inl (jn (k + 1))), some (.inl (jn b))] [] (n, ([], sG (mC M' (60, 0) c') g)) v σ' := by
        intro v σ'
        have head : jE (d + 20) 181 16 [some (.inr (.inr (some (11, (0, 0))))), some (.inl y), some (.inl p.1), some (.inl (jn k)), a4] [] (n, ([], M')) v σ' ↔ jE (d + 20) 181 45 [some (.inr (.inr (some (11, (0, 0))))), some (.inl y), some (.inl p.1), some (.inl (jn k)), a4] [] (n, ([], M')) v σ' := by
          simp only [s181_16, s181_17, s181_18, s181_19, s181_22, s181_23, s181_24, s181_25, s181_28, s181_29, s181_31, s181_34, s181_35, s181_38, s181_39, s181_42, jm_46, jk0, ji0 (show 0 < 2 by decide), w'.2.1.1.2, hpow, hne, if_false, r147, jcall_eq, Option.toList_some, Option.toList_none, List.cons_append, List.nil_append]
          rcases hcond.mp h1 with c1 | c1
          · rw [if_pos c1]
          · by_cases c2 : p.1 = -4
            · rw [if_pos c2]
            · rw [if_neg c2, if_neg (Int32.not_le.mpr c1)]
        rw [head]
        simp only [s181_45, s181_46, s181_49, s181_50, r142, jcall_eq, Option.toList_some, Option.toList_none, List.cons_append, List.nil_append]
        refine (ec v σ').trans ?_
        simp only [s181_103, s181_104, s181_105, s181_108, s181_111, s181_114, s181_115, s181_118, s181_119, s181_120, ed, jcall_eq, Option.toList_some, Option.toList_none, List.cons_append, List.nil_append, jb_0]
        rw [s181_123, s181_123, jn_1]
        by_cases c1 : hPass (hClaq h (jn k))
        · rw [if_neg (fun z => z c1), if_pos c1]
        · rw [if_pos c1, if_neg c1]
      by_cases c1 : hPass (hClaq h (jn k))
      · rw [if_pos c1] at es
        obtain ⟨M2, a3', a4', e2, ih⟩ := ih (k + 1) (jn k, bc (jn k)) _ (some (.inl (jn b))) (iEq_tr e (iEq_tr iEq_60 iEq_sG)) (by omega) (Or.inr ⟨k, by omega, rfl, bc_bts (by omega)⟩)
        refine ⟨M2, a3', a4', e2, fun v σ' => ?_⟩
        rw [es, hd, if_pos c1]
        exact ih v σ'
      · rw [if_neg c1] at es
        obtain ⟨M2, a3', a4', e2, ih⟩ := ih (k + 1) p _ (some (.inl (jn b))) (iEq_tr e (iEq_tr iEq_60 iEq_sG)) (by omega) hp
        refine ⟨M2, a3', a4', e2, fun v σ' => ?_⟩
        rw [es, hd, if_neg c1]
        exact ih v σ'
    · rw [if_neg h1] at es
      obtain ⟨M2, a3', a4', e2, ih⟩ := ih (k + 1) p M' a4 e (by omega) hp
      refine ⟨M2, a3', a4', e2, fun v σ' => ?_⟩
      rw [es]
      simp only [s181_16, s181_17, s181_18, s181_19, s181_22, s181_23, s181_24, s181_25, s181_28, s181_29, s181_31, s181_34, s181_35, s181_38, s181_39, s181_42, s181_120, jm_46, jk0, ji0 (show 0 < 2 by decide), w'.2.1.1.2, hpow, hne, if_false, r147, jcall_eq, Option.toList_some, Option.toList_none, List.cons_append, List.nil_append]
      have c1 : ¬ p.1 = -4 := fun z => h1 (hcond.mpr (Or.inl z))
      have c2 : ¬ bts (jn k) < bts p.1 := fun z => h1 (hcond.mpr (Or.inr z))
      rw [if_neg c1, if_pos (Int32.not_lt.mp c2), s181_123, jn_1]
      exact ih v σ'
/-- claques -/
theorem m181 (w : rO K a b l 55 M h) (hK : K ≤ 1000000) (hy : M 11 (0, 0) 25 = 0) : ∃ M2, iEq M M2 ∧ jE (d + 20) 181 0 (lm [.inl y] ++ [none, none, none]) [] (n, ([], M)) (some (.inl (lwClaq h y))) (n, ([], M2)) := by
  unfold lwClaq
  by_cases h1 : 0 ≤ y ∧ y ≤ 1
  · obtain ⟨M2, a3', a4', e2, e⟩ := m181_loop (d := d) (n := n) (y := y) w hK hy (2 ^ b) 0 (-4, 8) M none (iEq_rfl M) (by omega) (Or.inl ⟨rfl, rfl⟩)
    have hb : (jfor (fcStep h) (2 ^ b) 0 (-4, 8)).1 = fcBest h := by
      unfold fcBest
      rw [(hSets_eq w.1).1]
    have hin : fcBest h = -4 ∨ bc (fcBest h) = bts (fcBest h) := by
      have := jfor_inv (P := fun p : Int32 × Int32 => p.1 = -4 ∨ ∃ q, q ≤ 255 ∧ p.1 = jn q) (f := fcStep h) (2 ^ b) 0 (-4, 8) (fun j p _ hj hp => by
        have hp128 : 2 ^ b ≤ 128 := by
          have w1 := w.1.1
          have e2 : ∀ b : Fin 8, 2 ^ b.1 ≤ 128 := by decide +kernel
          exact e2 ⟨b, by omega⟩
        unfold fcStep
        by_cases c1 : bc (jn j) < p.2
        · rw [if_pos c1]
          by_cases c2 : hPass (hClaq h (jn j))
          · rw [if_pos c2]; exact Or.inr ⟨j, by omega, rfl⟩
          · rw [if_neg c2]; exact hp
        · rw [if_neg c1]; exact hp) (Or.inl rfl)
      rw [hb] at this
      rcases this with q | ⟨q, q1, q2⟩
      · exact Or.inl q
      · right; rw [q2, bc_bts q1]
    rw [hb] at e
    refine ⟨M2, e2, jE_of (fun v σ' => ?_)⟩
    rw [if_pos h1]
    simp only [lm, List.map_cons, List.map_nil, s181_0, s181_1, s181_2, s181_3, s181_6, s181_11, s181_13, s181_14, s181_15, r123, jcall_eq, Option.toList_some, Option.toList_none, List.cons_append, List.nil_append, jb_0, Classical.not_not, jifN, if_pos h1]
    refine (e v σ').trans ?_
    simp only [s181_126, s181_127, s181_129, s181_132, s181_133, s181_134, s181_137, s181_138, s181_141, s181_142, s181_145, r147, jcall_eq, Option.toList_some, Option.toList_none, List.cons_append, List.nil_append, jifN]
    by_cases c1 : fcBest h = -4
    · rw [if_pos c1, if_pos c1, c1]
    · rw [if_neg c1, if_neg c1]
      have c3 := hin.resolve_left c1
      have y01 : y = 0 ∨ y = 1 := by
        have e0 := jx_of h1.1
        have e1 := jx_le h1.1 (k := 1) (by omega) h1.2
        rcases (show y.toNatClampNeg = 0 ∨ y.toNatClampNeg = 1 by omega) with q | q
        · left; rw [← e0, q]; rfl
        · right; rw [← e0, q]; rfl
      rcases y01 with rfl | rfl
      · rw [if_neg (by decide), if_pos rfl, c3]
      · rw [if_pos rfl, if_neg (by decide)]
  · refine ⟨M, iEq_rfl M, jE_of (fun v σ' => ?_)⟩
    rw [if_neg h1]
    simp only [lm, List.map_cons, List.map_nil, s181_0, s181_1, s181_2, s181_3, s181_6, s181_9, s181_10, r123, jcall_eq, Option.toList_some, Option.toList_none, List.cons_append, List.nil_append, jb_0, Classical.not_not, jifN, if_neg h1]
end JRS1
