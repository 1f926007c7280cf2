/-! the reference: most, fits -/
section JRS2
variable {d n K a b l f : Nat} {v : Option jV} {σ' : jS} {M M' : jM} {x y z : Int32} {h g nv : jH} {c : Nat → Int32}
theorem hBnd_pos (w : hOk K a b l h) : ∃ q, q ≤ 56 ∧ hBnd h = jn q := by
  have w1 := w.1
  have e : ∀ m : Fin 256, bc (jn m.1) = jn (bc (jn m.1)).toNatClampNeg ∧ (bc (jn m.1)).toNatClampNeg ≤ 8 := by decide +kernel
  unfold hBnd
  rw [hOk_S w]
  have a1 := jfor_two (R := fun k (x : Int32) (_ : Unit) => ∃ q, q ≤ 8 * k ∧ x = jn q) (f := fun k c => c + bc (rg 7 (h 8) (jn k))) (f' := fun _ u => u) b 0 0 () (fun j x _ h1 h2 z => by
    obtain ⟨q, q1, q2⟩ := z
    obtain ⟨m, _, m2, m3⟩ := w.2.2.2.2.2.2.2.2 j (by omega)
    have e' : bc (jn m) = jn (bc (jn m)).toNatClampNeg ∧ (bc (jn m)).toNatClampNeg ≤ 8 := e ⟨m, by omega⟩
    refine ⟨q + (bc (jn m)).toNatClampNeg, by have := e'.2; omega, ?_⟩
    show x + bc (rg 7 (h 8) (jn j)) = _
    rw [rg_in (by omega) (by omega), m3, q2, ← jn_add]
    congr 1
    exact e'.1) ⟨0, by omega, rfl⟩
  rw [Nat.zero_add] at a1
  obtain ⟨q, q1, q2⟩ := a1
  exact ⟨q, by omega, q2⟩
/-- class's best so far, reference's best so far -/
def msR (o : Int32 × Int32) (p : Int32 × Int32) : Prop := (o = (-4, -4) ∧ p.1 = -4) ∨ (o = p ∧ ∃ q, q < 1000 ∧ p.1 = jn q)
theorem hOk_taHouse (w : hOk K a b l h) {s p : Nat} (hs : s < a) (hp : p ≤ l) (hx : ¬ hBilled h (jn s)) : hOk K a b (l + 1) (taHouse h (jn s) p) := by
  unfold taHouse
  by_cases c1 : hPass (hMount h (jn s) p)
  · rw [if_pos c1]; exact hOk_bindAll (hOk_mount w hs hp hx)
  · rw [if_neg c1]; exact hOk_mount w hs hp hx
theorem m184_one (w : rO K a b l 55 M h) (hK : K ≤ 1000000) (hy : M 11 (0, 0) 25 = 0) {s p : Nat} (hs : s < a) (hp : p ≤ l) (hx : ¬ hBilled h (jn s)) {o q : Int32 × Int32} (r : msR o q) {a6 : Option jV} : ∃ M2 q' a6', iEq M M2 ∧ msR (taStep h (jn s) p o) q' ∧ ∀ (v : Option jV) (σ' : jS), jE (d + 20) 184 33 [some (.inr (.inr (some (11, (0, 0))))), some (.inl y), some (.inl q.1), some (.inl q.2), some (.inl (jn s)), some (.inl (jn p)), a6] [] (n, ([], M)) v σ' ↔ jE (d + 20) 184 33 [some (.inr (.inr (some (11, (0, 0))))), some (.inl y), some (.inl q'.1), some (.inl q'.2), some (.inl (jn s)), some (.inl (jn (p + 1))), a6'] [] (n, ([], M2)) v σ' := by
  have w1 := w.1.1
  have hl := hOk_room w.1 hs hx
  have wm := hOk_mount w.1 hs hp hx
  have wh := hOk_taHouse w.1 hs hp hx
  have e1 : hOnBill h (jn s) = -4 := Classical.not_not.mp hx
  have wt := rO_take w
  obtain ⟨c1, r1, et⟩ := r164 (d := d + 19) (n := n) (x := jn s) wt (show l < 7 by omega) hp
  simp only [mC_mC] at et
  have wo := rO_try (c := c1) w wm (fun r hr => hMount_f (by omega) (by omega)) r1
  obtain ⟨g, hg, ed⟩ := r155 (d := d + 15) (n := n) (y := 0) wo hK (by rw [mC_k (by decide)]; exact hy)
  have hg := hg (by omega)
  subst hg
  obtain ⟨hr, hn⟩ := same_go (y := 0) wm hK
  obtain ⟨c2, r2, eb⟩ := r156 (d := d + 19) (n := n) (M := M) (g := mGo (hMount h (jn s) p) b (l + 1) 0) (rS_rows w.2.1 (hMount_f (by decide) (by decide)) (hMount_f (by decide) (by decide)) (hMount_f (by decide) (by decide)) (hMount_f (by decide) (by decide)) (hMount_f (by decide) (by decide))) wm (Or.inr rfl) r1 (fun s hs => (hr s hs).2.2.2)
  obtain ⟨m, hm1, hm2⟩ := hBnd_pos wh
  -- what is bound then
  have fin : ∃ c3, rO K a b (l + 1) 60 (sG (mC M (60, 0) c3) (mGo (hMount h (jn s) p) b (l + 1) 0)) (taHouse h (jn s) p) ∧ ∀ (v : Option jV) (σ' : jS), jE (d + 20) 184 33 [some (.inr (.inr (some (11, (0, 0))))), some (.inl y), some (.inl q.1), some (.inl q.2), some (.inl (jn s)), some (.inl (jn p)), a6] [] (n, ([], M)) v σ' ↔ jE (d + 20) 184 93 [some (.inr (.inr (some (11, (0, 0))))), some (.inl y), some (.inl q.1), some (.inl q.2), some (.inl (jn s)), some (.inl (jn p)), a6] [] (n, ([], sG (mC M (60, 0) c3) (mGo (hMount h (jn s) p) b (l + 1) 0))) v σ' := by
    have hne : ¬ jn l < jn p := fun z => absurd ((jn_lt (by omega) (by omega)).mp z) (by omega)
    by_cases c0 : hPass (hMount h (jn s) p)
    · have eT : taHouse h (jn s) p = hBindAll (nUnfold (hMount h (jn s) p) 0 3) (hMount h (jn s) p) := if_pos c0
      refine ⟨c2, ?_, fun v σ' => ?_⟩
      · rw [eT]
        exact rO_sG _ (rO_try w (hOk_bindAll wm) (fun r hr => by rw [hBindAll_f (by omega), hMount_f (by omega) (by omega)]) r2)
      · simp only [s184_33, s184_35, s184_36, s184_39, s184_41, s184_42, s184_45, s184_46, s184_49, s184_51, s184_54, s184_56, s184_59, s184_60, s184_63, s184_64, s184_67, s184_69, s184_71, s184_74, s184_75, s184_76, s184_79, s184_82, s184_85, s184_86, s184_87, s184_90, jm_55, jk7, ji7 (show 7 < 39 by decide), w.2.2.1.2.1.1, w.1.2.1.2.2, hne, if_false, r145 w, e1, not_true_eq_false, r142, et, ed, eb, jcall_eq, Option.toList_some, Option.toList_none, List.cons_append, List.nil_append, jb_0]
        rw [if_neg (fun z => z c0)]
    · have eT : taHouse h (jn s) p = hMount h (jn s) p := if_neg c0
      refine ⟨c1, ?_, fun v σ' => ?_⟩
      · rw [eT]
        exact rO_sG _ wo
      · simp only [s184_33, s184_35, s184_36, s184_39, s184_41, s184_42, s184_45, s184_46, s184_49, s184_51, s184_54, s184_56, s184_59, s184_60, s184_63, s184_64, s184_67, s184_69, s184_71, s184_74, s184_75, s184_76, s184_79, s184_82, jm_55, jk7, ji7 (show 7 < 39 by decide), w.2.2.1.2.1.1, w.1.2.1.2.2, hne, if_false, r145 w, e1, not_true_eq_false, r142, et, ed, jcall_eq, Option.toList_some, Option.toList_none, List.cons_append, List.nil_append, jb_0]
        rw [if_pos c0]
  obtain ⟨c3, w3, e3⟩ := fin
  have tail : ∀ (v : Option jV) (σ' : jS), jE (d + 20) 184 93 [some (.inr (.inr (some (11, (0, 0))))), some (.inl y), some (.inl q.1), some (.inl q.2), some (.inl (jn s)), some (.inl (jn p)), a6] [] (n, ([], sG (mC M (60, 0) c3) (mGo (hMount h (jn s) p) b (l + 1) 0))) v σ' ↔ (if q.1 = -4 ∨ q.2 < jn m then jE (d + 20) 184 33 [some (.inr (.inr (some (11, (0, 0))))), some (.inl y), some (.inl (10 * jn s + jn p)), some (.inl (jn m)), some (.inl (jn s)), some (.inl (jn (p + 1))), some (.inl (jn m))] [] (n, ([], sG (mC M (60, 0) c3) (mGo (hMount h (jn s) p) b (l + 1) 0))) v σ' else jE (d + 20) 184 33 [some (.inr (.inr (some (11, (0, 0))))), some (.inl y), some (.inl q.1), some (.inl q.2), some (.inl (jn s)), some (.inl (jn (p + 1))), some (.inl (jn m))] [] (n, ([], sG (mC M (60, 0) c3) (mGo (hMount h (jn s) p) b (l + 1) 0))) v σ') := by
    intro v σ'
    simp only [s184_93, s184_94, s184_95, s184_98, s184_101, s184_103, s184_104, s184_106, s184_109, s184_111, s184_112, s184_115, s184_117, s184_119, s184_120, s184_122, s184_123, s184_124, s184_126, s184_127, r149 w3, hm2, jcall_eq, Option.toList_some, Option.toList_none, List.cons_append, List.nil_append]
    rw [s184_130, s184_130, jn_1]
    by_cases k1 : q.1 = -4
    · rw [if_pos k1, if_pos (Or.inl k1)]
    · rw [if_neg k1]
      by_cases k2 : q.2 < jn m
      · rw [if_neg (Int32.not_le.mpr k2), if_pos (Or.inr k2)]
      · rw [if_pos (Int32.not_lt.mp k2), if_neg (fun z => z.elim k1 k2)]
  have ie : iEq M (sG (mC M (60, 0) c3) (mGo (hMount h (jn s) p) b (l + 1) 0)) := iEq_tr iEq_60 iEq_sG
  have eS : taStep h (jn s) p o = if o.2 < jn m then (10 * jn s + jn p, jn m) else o := by
    unfold taStep
    rw [hm2]
  have eN : (10 * jn s + jn p : Int32) = jn (10 * s + p) := by rw [show (10 : Int32) = jn 10 from rfl, jn_mul, jn_add]
  have eC : o.2 < jn m ↔ (q.1 = -4 ∨ q.2 < jn m) := by
    rcases r with ⟨k1, k2⟩ | ⟨k1, k3, k4, k5⟩
    · rw [k1, k2]
      refine ⟨fun _ => Or.inl rfl, fun _ => ?_⟩
      exact Int32.lt_of_lt_of_le (show (-4 : Int32) < 0 by decide) (jn_pos (by omega))
    · rw [k1, k5]
      exact ⟨fun z => Or.inr z, fun z => z.elim (fun z2 => absurd z2 (jn_ne4 (by omega))) id⟩
  by_cases k : q.1 = -4 ∨ q.2 < jn m
  · refine ⟨_, (10 * jn s + jn p, jn m), some (.inl (jn m)), ie, ?_, fun v σ' => ?_⟩
    · rw [eS, if_pos (eC.mpr k)]
      exact Or.inr ⟨rfl, 10 * s + p, by omega, eN⟩
    · rw [e3, tail, if_pos k]
  · refine ⟨_, q, some (.inl (jn m)), ie, ?_, fun v σ' => ?_⟩
    · rw [eS, if_neg (fun z => k (eC.mp z))]
      exact r
    · rw [e3, tail, if_neg k]
theorem m184_in (w : rO K a b l 55 M h) (hK : K ≤ 1000000) (hy : M 11 (0, 0) 25 = 0) {s : Nat} (hs : s < a) (hx : ¬ hBilled h (jn s)) : ∀ (m p : Nat) (o q : Int32 × Int32) (M' : jM) (a6 : Option jV), iEq M M' → p + m = l + 1 → msR o q → ∃ M2 q' a6', iEq M M2 ∧ msR (jfor (fun p o => taStep h (jn s) p o) m p o) q' ∧ ∀ (v : Option jV) (σ' : jS), jE (d + 20) 184 33 [some (.inr (.inr (some (11, (0, 0))))), some (.inl y), some (.inl q.1), some (.inl q.2), some (.inl (jn s)), some (.inl (jn p)), a6] [] (n, ([], M')) v σ' ↔ jE (d + 20) 184 133 [some (.inr (.inr (some (11, (0, 0))))), some (.inl y), some (.inl q'.1), some (.inl q'.2), some (.inl (jn s)), some (.inl (jn (l + 1))), a6'] [] (n, ([], M2)) v σ' := by
  have w1 := w.1.1
  intro m
  induction m with
  | zero =>
    intro p o q M' a6 e hp r
    have w' := rO_iEq e w
    refine ⟨M', q, a6, e, r, fun v σ' => ?_⟩
    simp only [s184_33, s184_35, s184_36, s184_39, s184_41, s184_42, jm_55, jk7, ji7 (show 7 < 39 by decide), w'.2.2.1.2.1.1, w'.1.2.1.2.2]
    rw [if_pos ((jn_lt (by omega) (by omega)).mpr (by omega)), show p = l + 1 by omega]
  | succ m ih =>
    intro p o q M' a6 e hp r
    have w' := rO_iEq e w
    obtain ⟨M1, q1, b6, i1, r1, e1⟩ := m184_one (d := d) (n := n) (y := y) w' hK (hy_iEq e hy) hs (show p ≤ l by omega) hx r (a6 := a6)
    obtain ⟨M2, q', a6', i2, r2, e2⟩ := ih (p + 1) _ q1 M1 b6 (iEq_tr e i1) (by omega) r1
    exact ⟨M2, q', a6', i2, r2, fun v σ' => (e1 v σ').trans (e2 v σ')⟩
theorem m184_loop (w : rO K a b l 55 M h) (hK : K ≤ 1000000) (hy : M 11 (0, 0) 25 = 0) : ∀ (m s : Nat) (o q : Int32 × Int32) (M' : jM) (a5 a6 : Option jV), iEq M M' → s + m = a → msR o q → ∃ M2 q' a5' a6', iEq M M2 ∧ msR (jfor (faStep h) m s o) q' ∧ ∀ (v : Option jV) (σ' : jS), jE (d + 20) 184 19 [some (.inr (.inr (some (11, (0, 0))))), some (.inl y), some (.inl q.1), some (.inl q.2), some (.inl (jn s)), a5, a6] [] (n, ([], M')) v σ' ↔ jE (d + 20) 184 139 [some (.inr (.inr (some (11, (0, 0))))), some (.inl y), some (.inl q'.1), some (.inl q'.2), some (.inl (jn a)), a5', a6'] [] (n, ([], M2)) v σ' := by
  have w1 := w.1.1
  intro m
  induction m with
  | zero =>
    intro s o q M' a5 a6 e hs r
    have w' := rO_iEq e w
    refine ⟨M', q, a5, a6, e, r, fun v σ' => ?_⟩
    simp only [s184_19, s184_21, s184_22, s184_25, s184_26, s184_27, jm_42, jk0, ji0 (show 0 < 2 by decide), w'.2.1.1.1]
    rw [if_pos ((jn_le (by omega) (by omega)).mpr (by omega)), show s = a by omega]
  | succ m ih =>
    intro s o q M' a5 a6 e hs r
    have w' := rO_iEq e w
    have hne : ¬ jn a ≤ jn s := fun z => absurd ((jn_le (by omega) (by omega)).mp z) (by omega)
    have head : ∀ (v : Option jV) (σ' : jS), jE (d + 20) 184 19 [some (.inr (.inr (some (11, (0, 0))))), some (.inl y), some (.inl q.1), some (.inl q.2), some (.inl (jn s)), a5, a6] [] (n, ([], M')) v σ' ↔ jE (d + 20) 184 33 [some (.inr (.inr (some (11, (0, 0))))), some (.inl y), some (.inl q.1), some (.inl q.2), some (.inl (jn s)), some (.inl (jn 0)), a6] [] (n, ([], M')) v σ' := by
      intro v σ'
      simp only [s184_19, s184_21, s184_22, s184_25, s184_26, s184_27, s184_30, s184_31, jm_42, jk0, ji0 (show 0 < 2 by decide), w'.2.1.1.1, hne, if_false]
      rfl
    rw [jfor]
    have es : faStep h s o = if hBilled h (jn s) then o else jfor (fun p o => taStep h (jn s) p o) (hB h + 1) 0 o := rfl
    by_cases hx : hBilled h (jn s)
    · rw [if_pos hx] at es
      obtain ⟨M2, q', a5', a6', i2, r2, e2⟩ := ih (s + 1) o q M' (some (.inl (jn 0))) a6 e (by omega) r
      refine ⟨M2, q', a5', a6', i2, by rw [es]; exact r2, fun v σ' => ?_⟩
      rw [head]
      obtain ⟨p, hp, ep⟩ := (hOk_billed w.1).mp hx
      have e1 := hOk_at w.1 hp ep
      simp only [s184_33, s184_35, s184_36, s184_39, s184_41, s184_42, s184_45, s184_46, s184_49, s184_51, s184_54, s184_56, s184_133, jm_55, jk7, ji7 (show 7 < 39 by decide), w'.2.2.1.2.1.1, w'.1.2.1.2.2, r145 w', e1, jcall_eq, Option.toList_some, Option.toList_none, List.cons_append, List.nil_append]
      rw [if_neg (fun z => absurd ((jn_lt (by omega) (by omega)).mp z) (by omega)), if_pos (jn_ne4 (by omega)), s184_136, jn_1]
      exact e2 v σ'
    · rw [if_neg hx, hOk_B w.1] at es
      obtain ⟨M1, q1, b6, i1, r1, e1⟩ := m184_in (d := d) (n := n) (y := y) w hK hy (show s < a by omega) hx (l + 1) 0 o q M' a6 e (by omega) r
      obtain ⟨M2, q', a5', a6', i2, r2, e2⟩ := ih (s + 1) _ q1 M1 (some (.inl (jn (l + 1)))) b6 i1 (by omega) r1
      refine ⟨M2, q', a5', a6', i2, by rw [es]; exact r2, fun v σ' => ?_⟩
      rw [head, e1 v σ', s184_133, s184_136, jn_1]
      exact e2 v σ'
/-- most -/
theorem m184 (w : rO K a b l 55 M h) (hK : K ≤ 1000000) (hy : M 11 (0, 0) 25 = 0) : ∃ M2, iEq M M2 ∧ jE (d + 20) 184 0 (lm [.inl y] ++ [none, none, none, none, none]) [] (n, ([], M)) (some (.inl (lwMost h y))) (n, ([], M2)) := by
  unfold lwMost
  by_cases h1 : 0 ≤ y ∧ y ≤ 1
  · obtain ⟨M2, q', a5', a6', i2, r2, e⟩ := m184_loop (d := d) (n := n) (y := y) w hK hy a 0 (-4, -4) (-4, 0) M none none (iEq_rfl M) (by omega) (Or.inl ⟨rfl, rfl⟩)
    have hb : jfor (faStep h) a 0 (-4, -4) = faBest h := by
      unfold faBest
      rw [hOk_C w.1]
    rw [hb] at r2
    refine ⟨M2, i2, jE_of (fun v σ' => ?_)⟩
    rw [if_pos h1]
    simp only [lm, List.map_cons, List.map_nil, s184_0, s184_1, s184_2, s184_3, s184_6, s184_11, s184_13, s184_14, s184_15, s184_16, s184_17, r123, jcall_eq, Option.toList_some, Option.toList_none, List.cons_append, List.nil_append, jb_0, Classical.not_not, jifN, if_pos h1]
    refine (e v σ').trans ?_
    simp only [s184_139, s184_140, s184_142, s184_145, s184_146, s184_149, s184_150, s184_153, s184_154, jifN]
    rcases r2 with ⟨k1, k2⟩ | ⟨k1, q, k2, k3⟩
    · rw [if_pos k2, k1, k2, if_c]
    · rw [if_neg (by rw [k3]; exact jn_ne4 (by omega)), k1]
      by_cases c1 : y = 0
      · rw [if_pos c1, if_pos c1]
      · rw [if_neg c1, if_neg c1]
  · refine ⟨M, iEq_rfl M, jE_of (fun v σ' => ?_)⟩
    rw [if_neg h1]
    simp only [lm, List.map_cons, List.map_nil, s184_0, s184_1, s184_2, s184_3, s184_6, s184_9, s184_10, r123, jcall_eq, Option.toList_some, Option.toList_none, List.cons_append, List.nil_append, jb_0, Classical.not_not, jifN, if_neg h1]
/-- isSo: what was seen -/
theorem r187_loop {q : Nat} {z : Int32} {m : Nat} (hm : M 11 (0, 0) 29 = jn m) (h6 : m ≤ 6) : ∀ (g k : Nat) (t : Bool), k + g = m → (jE d 187 36 [some (.inr (.inr (some (11, (0, 0))))), some (.inl x), some (.inl z), some (.inl (jb (t = true))), some (.inl (jn k))] [] (n, ([], M)) v σ' ↔ v = some (.inl (jb (t = true ∧ sgAgree (M 12 (67, 0)) (M 12 (68, 0)) x z g k = true))) ∧ σ' = (n, ([], M))) := by
  intro g
  induction g with
  | zero =>
    intro k t hk
    simp only [s187_36, s187_38, s187_39, s187_42, hm]
    rw [if_pos ((jn_le (by omega) (by omega)).mpr (by omega)), s187_83, s187_84]
    have e : (t = true ∧ sgAgree (M 12 (67, 0)) (M 12 (68, 0)) x z 0 k = true) ↔ t = true := ⟨fun q => q.1, fun q => ⟨q, rfl⟩⟩
    have e2 : jb (t = true ∧ sgAgree (M 12 (67, 0)) (M 12 (68, 0)) x z 0 k = true) = jb (t = true) := by
      by_cases c : t = true
      · rw [jb_t c, jb_t (e.mpr c)]
      · rw [jb_f c, jb_f (fun q => c (e.mp q))]
    rw [e2]
    exact jb01 (jb_01 _)
  | succ g ih =>
    intro k t hk
    have hd : jE d 187 36 [some (.inr (.inr (some (11, (0, 0))))), some (.inl x), some (.inl z), some (.inl (jb (t = true))), some (.inl (jn k))] [] (n, ([], M)) v σ' ↔ jE d 187 80 [some (.inr (.inr (some (11, (0, 0))))), some (.inl x), some (.inl z), some (.inl (jb ((t && !(decide (M 12 (67, 0) k = x ∧ ¬ M 12 (68, 0) k = z))) = true))), some (.inl (jn k + 1))] [] (n, ([], M)) v σ' := by
      simp only [s187_36, s187_38, s187_39, s187_42, hm]
      rw [if_neg (fun z => absurd ((jn_le (by omega) (by omega)).mp z) (by omega))]
      simp (disch := omega) only [s187_45, s187_46, s187_49, s187_50, s187_53, s187_55, s187_56, s187_57, s187_60, s187_61, s187_64, s187_66, s187_67, s187_68, s187_71, s187_72, s187_75, s187_76, s187_77, jm_67, jm_68, jiz, jcl, jb_0, jifN]
      cases t with
      | false =>
        rw [if_neg (by decide), jb_f (by simp)]
      | true =>
        rw [if_pos rfl, Bool.true_and]
        by_cases c1 : M 12 (67, 0) k = x
        · rw [if_pos c1]
          by_cases c2 : M 12 (68, 0) k = z
          · rw [if_pos c2, jb_t (by simp [c2])]
          · rw [if_neg c2, jb_f (by simp [c1, c2])]
        · rw [if_neg c1, jb_t (by simp [c1])]
    rw [hd, s187_80, jn_1, ih (k + 1) _ (by omega)]
    have e : ((t && !(decide (M 12 (67, 0) k = x ∧ ¬ M 12 (68, 0) k = z))) = true ∧ sgAgree (M 12 (67, 0)) (M 12 (68, 0)) x z g (k + 1) = true) ↔ (t = true ∧ sgAgree (M 12 (67, 0)) (M 12 (68, 0)) x z (g + 1) k = true) := by
      rw [sgAgree, rg_in (by omega) (by omega), rg_in (by omega) (by omega)]
      by_cases c : M 12 (67, 0) k = x ∧ ¬ M 12 (68, 0) k = z
      · rw [if_pos c, decide_eq_true c]
        simp
      · rw [if_neg c, decide_eq_false c]
        simp
    have e2 : jb ((t && !(decide (M 12 (67, 0) k = x ∧ ¬ M 12 (68, 0) k = z))) = true ∧ sgAgree (M 12 (67, 0)) (M 12 (68, 0)) x z g (k + 1) = true) = jb (t = true ∧ sgAgree (M 12 (67, 0)) (M 12 (68, 0)) x z (g + 1) k = true) := by
      by_cases c : (t && !(decide (M 12 (67, 0) k = x ∧ ¬ M 12 (68, 0) k = z))) = true ∧ sgAgree (M 12 (67, 0)) (M 12 (68, 0)) x z g (k + 1) = true
      · rw [jb_t c, jb_t (e.mp c)]
      · rw [jb_f c, jb_f (fun q => c (e.mpr q))]
    rw [e2]
theorem r187 (w : rO K a b l 55 M h) (hK : K ≤ 1000000) (hy : M 11 (0, 0) 25 = 0) {q m : Nat} (hq : q < b) (hm : M 11 (0, 0) 29 = jn m) (h6 : m ≤ 6) : jE (d + 4) 187 0 [some (.inr (.inr (some (11, (0, 0))))), some (.inl (jn q)), none, none, none] [] (n, ([], M)) v σ' ↔ v = some (.inl (jb (sgAgree (M 12 (67, 0)) (M 12 (68, 0)) (jn q) (nUnfold h 0 1 q) m 0 = true))) ∧ σ' = (n, ([], sG M (mGo h b l 0))) := by
  have w1 := w.1.1
  obtain ⟨q1, _, _, _⟩ := (same_go (y := 0) w.1 hK).1 q hq
  have hz : (if (if nUnfold h 0 1 q = 0 then (-4 : Int32) else nUnfold h 0 1 q) = -4 then (0 : Int32) else (if nUnfold h 0 1 q = 0 then -4 else nUnfold h 0 1 q)) = nUnfold h 0 1 q := by
    obtain ⟨u, u1, u2⟩ := ((same_go (y := 0) w.1 hK).2.1 q hq).2.1
    by_cases c : nUnfold h 0 1 q = 0
    · rw [if_pos c, if_pos rfl, c]
    · rw [if_neg c, if_neg (by rw [u2]; exact jn_ne4 (by omega))]
  have lp := r187_loop (d := d + 4) (n := n) (v := v) (σ' := σ') (M := sG M (mGo h b l 0)) (x := jn q) (z := nUnfold h 0 1 q) (q := q) (by rw [sG_k M _ (by decide) (by decide)]; exact hm) h6 m 0 true (by omega)
  rw [sG_r M _ (show (67 : Nat) ≠ 61 ∧ (67 : Nat) ≠ 62 ∧ (67 : Nat) ≠ 64 by decide), sG_r M _ (show (68 : Nat) ≠ 61 ∧ (68 : Nat) ≠ 62 ∧ (68 : Nat) ≠ 64 by decide)] at lp
  have e2 : jb (true = true ∧ sgAgree (M 12 (67, 0)) (M 12 (68, 0)) (jn q) (nUnfold h 0 1 q) m 0 = true) = jb (sgAgree (M 12 (67, 0)) (M 12 (68, 0)) (jn q) (nUnfold h 0 1 q) m 0 = true) := by
    by_cases c : sgAgree (M 12 (67, 0)) (M 12 (68, 0)) (jn q) (nUnfold h 0 1 q) m 0 = true
    · rw [jb_t c, jb_t ⟨rfl, c⟩]
    · rw [jb_f c, jb_f (fun z => c z.2)]
  rw [e2] at lp
  simp (disch := omega) only [s187_0, s187_1, s187_2, s187_5, s187_8, s187_9, s187_10, s187_13, s187_14, s187_15, s187_17, s187_20, s187_21, s187_24, s187_25, s187_28, s187_29, s187_30, s187_31, s187_32, s187_33, s187_34, r154 w hy, jcall_eq, Option.toList_some, Option.toList_none, List.cons_append, List.nil_append, jm_61, jiz, jcl, sG_0, q1, jifN]
  have hz2 : ∀ (P : Int32 → Prop), (if (if nUnfold h 0 1 q = 0 then (-4 : Int32) else nUnfold h 0 1 q) = -4 then P 0 else P (if nUnfold h 0 1 q = 0 then -4 else nUnfold h 0 1 q)) ↔ P (nUnfold h 0 1 q) := by
    intro P
    by_cases c : (if nUnfold h 0 1 q = 0 then (-4 : Int32) else nUnfold h 0 1 q) = -4
    · rw [if_pos c] at hz ⊢
      exact iff_of_eq (congrArg P hz)
    · rw [if_neg c] at hz ⊢
      exact iff_of_eq (congrArg P hz)
  exact (hz2 (fun t => jE (d + 4) 187 36 [some (.inr (.inr (some (11, (0, 0))))), some (.inl (jn q)), some (.inl t), some (.inl 1), some (.inl 0)] [] (n, ([], sG M (mGo h b l 0))) v σ')).trans lp
end JRS2
