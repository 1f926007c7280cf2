/-! the reference: soonest -/
def lwl (o : (Nat → Int32) × (Nat × Int32)) : Int32 := if o.2.1 = 0 then -4 else o.2.2
def oW (o : (Nat → Int32) × (Nat × Int32)) : Prop := (o.2.1 = 0 ∧ o.2.2 = 141) ∨ (1 ≤ o.2.1 ∧ o.2.1 ≤ 7 ∧ ∃ m, m ≤ 140 ∧ o.2.2 = jn m)
def XR (d n K a b : Nat) (M : jM) (H : jH) (x y : Int32) (c : Nat → Int32) (D : Nat) (o r : (Nat → Int32) × (Nat × Int32)) : Prop :=
  ∀ (M' : jM) (a5 a6 : Option jV), iEq M M' → rO K a b D 60 M' (hb H c D) → (∀ i, i < o.2.1 → M' 12 (66, 0) i = o.1 i) → ∃ M2 a5' a6', iEq M M2 ∧ (∀ i, i < r.2.1 → M2 12 (66, 0) i = r.1 i) ∧ ∀ (v : Option jV) (σ' : jS), jE (d + 20) 178 41 [some (.inr (.inr (some (11, (0, 0))))), some (.inl x), some (.inl y), some (.inl (lwl o)), some (.inl (jn o.2.1)), a5, a6] [] (n, ([], M')) v σ' ↔ jE (d + 20) 178 135 [some (.inr (.inr (some (11, (0, 0))))), some (.inl x), some (.inl y), some (.inl (lwl r)), some (.inl (jn r.2.1)), a5', a6'] [] (n, ([], M2)) v σ'
section JRY
variable {d n K a b l f D : Nat} {v : Option jV} {σ' : jS} {M M' : jM} {x y z set : Int32} {h g nv H : jH} {c : Nat → Int32} {o r : (Nat → Int32) × (Nat × Int32)}
theorem viB_oW (w : hOk K a b l H) (hc : cIn D a c) (hD : 0 < D) (ho : oW o) : oW (viB H set c D o) := by
  have w1 := w.1
  have hd := cIn_le (by omega) hc
  unfold viB
  by_cases e : jn (mnS H c D) < o.2.2 ∧ set &&& (clS H c D ^^^ -1) = 0 ∧ hPass (hb H c D)
  · rw [if_pos e]
    exact Or.inr ⟨hD, by show D ≤ 7; omega, _, by have := mnS_le w hc; omega, rfl⟩
  · rw [if_neg e]; exact ho
theorem ms_oW (w : hOk K a b l H) : ∀ (f D : Nat) (c : Nat → Int32) (o : (Nat → Int32) × (Nat × Int32)), cIn D a c → D + f = 7 → oW o → oW (msRun H a set f D c o) := by
  have w1 := w.1
  intro f
  induction f with
  | zero => intro D c o _ _ h; exact h
  | succ f ih =>
    intro D c o hc hf ho
    rw [msRun]
    refine jfor_inv (P := oW) a 0 o (fun k o' _ hk e => ?_) ho
    by_cases hx : inB c D k
    · rw [if_pos hx]; exact e
    · rw [if_neg hx]
      have hc2 := cIn_ext (by omega) hc (show k < a by omega) hx
      exact ih (D + 1) _ _ hc2 (by omega) (viB_oW w hc2 (by omega) e)
theorem lw_cond (ho : oW o) {m : Nat} (hm : m ≤ 140) : jn m < o.2.2 ↔ (lwl o = -4 ∨ jn m < lwl o) := by
  unfold lwl
  rcases ho with ⟨h1, h2⟩ | ⟨h1, h2, q, h3, h4⟩
  · rw [if_pos h1, h2]
    exact ⟨fun _ => Or.inl rfl, fun _ => (jn_lt (l := 141) (by omega) (by omega)).mpr (by omega)⟩
  · rw [if_neg (by omega), h4]
    exact ⟨fun z => Or.inr z, fun z => z.elim (fun z2 => absurd z2 (jn_ne4 (by omega))) id⟩
theorem m178_copy {a1 a2 a3 a5 : Option jV} {N : jM} (hD : D ≤ 7) (hc : ∀ i, i < D → N 12 (60, 0) i = c i) : ∀ (m k : Nat) (bst : Nat → Int32), k + m = D → ∃ bst', (∀ i, i < D → bst' i = if i < k then bst i else c i) ∧ ∀ (v : Option jV) (σ' : jS), jE d 178 103 [some (.inr (.inr (some (11, (0, 0))))), a1, a2, a3, some (.inl (jn D)), a5, some (.inl (jn k))] [] (n, ([], mC N (66, 0) bst)) v σ' ↔ jE d 178 132 [some (.inr (.inr (some (11, (0, 0))))), a1, a2, a3, some (.inl (jn D)), a5, some (.inl (jn D))] [] (n, ([], mC N (66, 0) bst')) v σ' := by
  intro m
  induction m with
  | zero =>
    intro k bst hk
    refine ⟨bst, fun i hi => by rw [if_pos (by omega)], fun v σ' => ?_⟩
    rw [s178_103, s178_105, s178_107, if_pos ((jn_le (by omega) (by omega)).mpr (by omega)), show k = D by omega]
  | succ m ih =>
    intro k bst hk
    obtain ⟨bst', e1, e2⟩ := ih (k + 1) (upd bst k (c k)) (by omega)
    refine ⟨bst', fun i hi => ?_, fun v σ' => ?_⟩
    · rw [e1 i hi]
      unfold upd
      by_cases q : i = k
      · rw [if_pos (by omega), if_pos q, if_neg (by omega), q]
      · by_cases q2 : i < k
        · rw [if_pos (by omega), if_neg q, if_pos q2]
        · rw [if_neg (by omega), if_neg q2]
    · rw [s178_103, s178_105, s178_107, if_neg (fun z => absurd ((jn_le (by omega) (by omega)).mp z) (by omega))]
      simp (disch := omega) only [s178_110, s178_111, s178_114, s178_116, s178_117, s178_120, s178_121, s178_123, s178_124, s178_125, s178_126, jm_60, jm_66, mC_ne (show ((60, 0) : jA) ≠ (66, 0) by decide), mC_at, mC_up, mC_mC, jnA0, jiz, jcl, hc k (by omega)]
      rw [s178_129, jn_1]
      exact e2 v σ'
/-- a bill is looked at -/
theorem m178_visit (wH : hOk K a b l H) (hK : K ≤ 1000000) (hy : M 11 (0, 0) 25 = 0) (e : iEq M M') (w : rO K a b D 60 M' (hb H c D)) (hD : 0 < D) (ho : oW o) (hbst : ∀ i, i < o.2.1 → M' 12 (66, 0) i = o.1 i) {a5 a6 : Option jV} : ∃ M2 a5' a6', iEq M M2 ∧ rO K a b D 60 M2 (hb H c D) ∧ (∀ i, i < (viB H x c D o).2.1 → M2 12 (66, 0) i = (viB H x c D o).1 i) ∧ ∀ (v : Option jV) (σ' : jS), jE (d + 20) 178 48 [some (.inr (.inr (some (11, (0, 0))))), some (.inl x), some (.inl y), some (.inl (lwl o)), some (.inl (jn o.2.1)), a5, a6] [] (n, ([], M')) v σ' ↔ jE (d + 20) 178 41 [some (.inr (.inr (some (11, (0, 0))))), some (.inl x), some (.inl y), some (.inl (lwl (viB H x c D o))), some (.inl (jn (viB H x c D o).2.1)), a5', a6'] [] (n, ([], M2)) v σ' := by
  have w1 := w.1.1
  have hc := rO_hb w
  have hm := mnS_le wH hc
  have hcond := lw_cond ho (show mnS H c D ≤ 140 by omega)
  obtain ⟨g, hg, ed⟩ := r155 (d := d + 15) (n := n) (y := 0) w hK (hy_iEq e hy)
  -- the three tests
  have head : ∀ (v : Option jV) (σ' : jS), jE (d + 20) 178 48 [some (.inr (.inr (some (11, (0, 0))))), some (.inl x), some (.inl y), some (.inl (lwl o)), some (.inl (jn o.2.1)), a5, a6] [] (n, ([], M')) v σ' ↔ if jn (mnS H c D) < o.2.2 then jE (d + 20) 178 66 [some (.inr (.inr (some (11, (0, 0))))), some (.inl x), some (.inl y), some (.inl (lwl o)), some (.inl (jn o.2.1)), some (.inl (jn (mnS H c D))), a6] [] (n, ([], M')) v σ' else jE (d + 20) 178 132 [some (.inr (.inr (some (11, (0, 0))))), some (.inl x), some (.inl y), some (.inl (lwl o)), some (.inl (jn o.2.1)), some (.inl (jn (mnS H c D))), a6] [] (n, ([], M')) v σ' := by
    intro v σ'
    simp only [s178_48, s178_49, s178_52, s178_54, s178_55, s178_57, s178_60, s178_62, s178_63, r176 wH w, jcall_eq, Option.toList_some, Option.toList_none, List.cons_append, List.nil_append]
    by_cases c1 : lwl o = -4
    · rw [if_pos c1, if_pos (hcond.mpr (Or.inl c1))]
    · rw [if_neg c1]
      by_cases c2 : jn (mnS H c D) < lwl o
      · rw [if_neg (Int32.not_le.mpr c2), if_pos (hcond.mpr (Or.inr c2))]
      · rw [if_pos (Int32.not_lt.mp c2), if_neg (fun z => (hcond.mp z).elim c1 c2)]
  by_cases c1 : jn (mnS H c D) < o.2.2
  · by_cases c2 : x &&& (clS H c D ^^^ -1) = 0
    · by_cases c3 : hPass (hb H c D)
      · have ev : viB H x c D o = (c, (D, jn (mnS H c D))) := if_pos ⟨c1, c2, c3⟩
        have hcc : ∀ i, i < D → sG M' g 12 (60, 0) i = c i := fun i hi => by
          rw [sG_r _ _ (by decide), w.2.2.1.1 i hi, hb_4]
        have hd := cIn_le (by omega) hc
        obtain ⟨bst', b1, b2⟩ := m178_copy (d := d + 20) (n := n) (D := D) (c := c) (N := sG M' g) (a1 := some (.inl x)) (a2 := some (.inl y)) (a3 := some (.inl (jn (mnS H c D)))) (a5 := some (.inl (jn (mnS H c D)))) (by omega) hcc D 0 (sG M' g 12 (66, 0)) (by omega)
        rw [mC_self] at b2
        refine ⟨mC (sG M' g) (66, 0) bst', some (.inl (jn (mnS H c D))), some (.inl (jn D)), iEq_tr e (iEq_tr iEq_sG iEq_66), ?_, fun i hi => ?_, fun v σ' => ?_⟩
        · have w2 := rO_sG g w
          refine ⟨w2.1, ?_, ?_, w2.2.2.2⟩
          · have := w2.2.1
            unfold rS at this ⊢
            rw [mC_ne (by decide), mC_ne (by decide), mC_ne (by decide), mC_ne (by decide), mC_ne (by decide), mC_ne (by decide), mC_ne (by decide)]
            exact this
          · rw [mC_ne (by decide)]
            exact w2.2.2.1
        · rw [ev] at hi ⊢
          rw [mC_at, b1 i hi, if_neg (by omega)]
        · rw [head, if_pos c1, ev]
          have e7 : sG M' g 12 (60, 0) 7 = jn D := by
            rw [sG_r _ _ (by decide)]
            exact w.2.2.1.2.1.1.trans w.1.2.1.2.2
          simp only [s178_66, s178_67, s178_68, s178_71, s178_72, s178_73, s178_74, s178_77, s178_78, s178_79, s178_82, s178_85, s178_88, s178_90, s178_91, s178_92, s178_95, s178_97, s178_98, s178_100, s178_101, r175 wH w, ed, jcall_eq, Option.toList_some, Option.toList_none, List.cons_append, List.nil_append, jm_60, jk7, ji7 (show 7 < 39 by decide), e7, jb_0, c2]
          rw [if_neg (fun z => z trivial), if_neg (fun z => z c3)]
          refine (b2 v σ').trans ?_
          rw [s178_132]
          have el : lwl (c, (D, jn (mnS H c D))) = jn (mnS H c D) := if_neg (by show ¬ D = 0; omega)
          rw [el]
      · have ev : viB H x c D o = o := if_neg (fun z => c3 z.2.2)
        refine ⟨sG M' g, some (.inl (jn (mnS H c D))), a6, iEq_tr e iEq_sG, rO_sG g w, fun i hi => ?_, fun v σ' => ?_⟩
        · rw [ev] at hi ⊢
          rw [sG_r _ _ (by decide)]
          exact hbst i hi
        · rw [head, if_pos c1, ev]
          simp only [s178_66, s178_67, s178_68, s178_71, s178_72, s178_73, s178_74, s178_77, s178_78, s178_79, s178_82, s178_85, r175 wH w, ed, jcall_eq, Option.toList_some, Option.toList_none, List.cons_append, List.nil_append, jb_0, c2]
          rw [if_neg (fun z => z trivial), if_pos c3, s178_132]
    · have ev : viB H x c D o = o := if_neg (fun z => c2 z.2.1)
      refine ⟨M', some (.inl (jn (mnS H c D))), a6, e, w, fun i hi => by rw [ev] at hi ⊢; exact hbst i hi, fun v σ' => ?_⟩
      rw [head, if_pos c1, ev]
      simp only [s178_66, s178_67, s178_68, s178_71, s178_72, s178_73, s178_74, r175 wH w, jcall_eq, Option.toList_some, Option.toList_none, List.cons_append, List.nil_append]
      rw [if_pos c2, s178_132]
  · have ev : viB H x c D o = o := if_neg (fun z => c1 z.1)
    refine ⟨M', some (.inl (jn (mnS H c D))), a6, e, w, fun i hi => by rw [ev] at hi ⊢; exact hbst i hi, fun v σ' => ?_⟩
    rw [head, if_neg c1, ev, s178_132]
/-- one turn of the search -/
theorem m178_head (wH : hOk K a b l H) (hK : K ≤ 1000000) (hy : M 11 (0, 0) 25 = 0) (ho : oW o) (hr : (nbB a D c 0 = none ∧ r = o) ∨ ∃ c' D', nbB a D c 0 = some (c', D') ∧ 0 < D' ∧ XR d n K a b M H x y c' D' (viB H x c' D' o) r) : XR d n K a b M H x y c D o r := by
  intro M' a5 a6 e w hbst
  obtain ⟨c2, q2, en⟩ := r177 (d := d + 18) (n := n) wH w
  rcases hr with ⟨h1, h2⟩ | ⟨c', D', h1, hD, h2⟩
  · subst h2
    refine ⟨mC M' (60, 0) c2, a5, a6, iEq_tr e iEq_60, fun i hi => by rw [mC_ne (by decide)]; exact hbst i hi, fun v σ' => ?_⟩
    simp only [s178_41, s178_42, s178_45, en, jcall_eq, Option.toList_some, Option.toList_none, List.cons_append, List.nil_append, jb_0]
    rw [if_pos (fun z => z h1)]
  · obtain ⟨q3, q4⟩ := q2 c' D' h1
    have wn : rO K a b D' 60 (mC M' (60, 0) c2) (hb H c' D') := rO_mC (Or.inr rfl) (hOk_b wH q4) (rS_rows w.2.1 (by rw [hb_f (by decide) (by decide), hb_f (by decide) (by decide)]) (by rw [hb_f (by decide) (by decide), hb_f (by decide) (by decide)]) (by rw [hb_f (by decide) (by decide), hb_f (by decide) (by decide)]) (by rw [hb_f (by decide) (by decide), hb_f (by decide) (by decide)]) (by rw [hb_f (by decide) (by decide), hb_f (by decide) (by decide)])) q3
    obtain ⟨M1, b5, b6, i1, w1, bs1, e1⟩ := m178_visit (d := d) (n := n) (x := x) (y := y) (a5 := a5) (a6 := a6) wH hK hy (iEq_tr e iEq_60) wn hD ho (fun i hi => by rw [mC_ne (by decide)]; exact hbst i hi)
    obtain ⟨M2, a5', a6', i2, bs2, e2⟩ := h2 M1 b5 b6 i1 w1 bs1
    refine ⟨M2, a5', a6', i2, bs2, fun v σ' => ?_⟩
    rw [← e2 v σ', ← e1 v σ']
    have one : jE (d + 20) 178 41 [some (.inr (.inr (some (11, (0, 0))))), some (.inl x), some (.inl y), some (.inl (lwl o)), some (.inl (jn o.2.1)), a5, a6] [] (n, ([], M')) v σ' ↔ jE (d + 20) 178 48 [some (.inr (.inr (some (11, (0, 0))))), some (.inl x), some (.inl y), some (.inl (lwl o)), some (.inl (jn o.2.1)), a5, a6] [] (n, ([], mC M' (60, 0) c2)) v σ' := by
      simp only [s178_41, s178_42, s178_45, en, jcall_eq, Option.toList_some, Option.toList_none, List.cons_append, List.nil_append, jb_0]
      rw [if_neg (fun z => z (fun z2 => by rw [z2] at h1; cases h1))]
    exact one
def Res (d n K a b : Nat) (M : jM) (H : jH) (x y : Int32) (D : Nat) (c : Nat → Int32) (k : Nat) (o r : (Nat → Int32) × (Nat × Int32)) : Prop :=
  (nbB a D c k = none ∧ r = o) ∨ ∃ c' D', nbB a D c k = some (c', D') ∧ 0 < D' ∧ XR d n K a b M H x y c' D' (viB H x c' D' o) r
theorem nb_used {k : Nat} (hk : k < a) (hx : inB c D k) : nbB a D c k = nbB a D c (k + 1) := by
  have e : fF c D (a - k) k = fF c D (a - (k + 1)) (k + 1) := by
    rw [show a - k = (a - (k + 1)) + 1 by omega, fF, if_pos hx]
  cases D with
  | zero => rw [nbB, nbB, e]
  | succ D => rw [nbB, nbB, e]
theorem nb_free {k : Nat} (hk : k < a) (hx : ¬ inB c D k) : nbB a D c k = some (upd c D (jn k), D + 1) := by
  have e : fF c D (a - k) k = some k := by
    rw [show a - k = (a - (k + 1)) + 1 by omega, fF, if_neg hx]
  cases D with
  | zero => rw [nbB, e]
  | succ D => rw [nbB, e]
theorem nb_end : nbB a (D + 1) c a = nbB a D (cutB c D) ((c D).toNatClampNeg + 1) := by
  rw [nbB, Nat.sub_self]
  rfl
theorem nb_end0 : nbB a 0 c a = none := by
  rw [nbB, Nat.sub_self]
  rfl
noncomputable def msFrom (H : jH) (a : Nat) (set : Int32) (f D : Nat) (c : Nat → Int32) (m k : Nat) (o : (Nat → Int32) × (Nat × Int32)) : (Nat → Int32) × (Nat × Int32) := match f with
  | 0 => o
  | f + 1 => jfor (fun k o => @ite _ (inB c D k) (Classical.propDecidable _) o (msRun H a set f (D + 1) (upd c D (jn k)) (viB H set (upd c D (jn k)) (D + 1) o))) m k o
theorem msFrom_all (f D : Nat) (c : Nat → Int32) (o : (Nat → Int32) × (Nat × Int32)) : msFrom H a set f D c a 0 o = msRun H a set f D c o := by
  cases f with
  | zero => rfl
  | succ f => rfl
theorem m178_dfs (wH : hOk K a b l H) (hK : K ≤ 1000000) (hy : M 11 (0, 0) 25 = 0) : ∀ (f D : Nat) (c : Nat → Int32), D + f = 7 → cIn D a c → cutB c D = c → ∀ (m k : Nat) (o r : (Nat → Int32) × (Nat × Int32)), k + m = a → oW o → Res d n K a b M H x y D c a (msFrom H a x f D c m k o) r → Res d n K a b M H x y D c k o r := by
  have wH1 := wH.1
  intro f
  induction f with
  | zero =>
    intro D c hD hc hcut m
    induction m with
    | zero =>
      intro k o r hk ho hr
      rw [show k = a by omega]
      exact hr
    | succ m ihm =>
      intro k o r hk ho hr
      have hx : inB c D k := by
        have h7 : D = 7 := by omega
        subst h7
        have ha := cIn_le (by omega) hc
        have ha7 : a = 7 := by omega
        subst ha7
        exact cIn_all (by omega) hc (show k < 7 by omega)
      have := ihm (k + 1) o r (by omega) ho hr
      unfold Res at this ⊢
      rw [nb_used (by omega) hx]
      exact this
  | succ f ih =>
    intro D c hD hc hcut m
    induction m with
    | zero =>
      intro k o r hk ho hr
      rw [show k = a by omega]
      exact hr
    | succ m ihm =>
      intro k o r hk ho hr
      have hstep : msFrom H a x (f + 1) D c (m + 1) k o = msFrom H a x (f + 1) D c m (k + 1) (@ite _ (inB c D k) (Classical.propDecidable _) o (msRun H a x f (D + 1) (upd c D (jn k)) (viB H x (upd c D (jn k)) (D + 1) o))) := rfl
      rw [hstep] at hr
      by_cases hx : inB c D k
      · rw [if_pos hx] at hr
        have := ihm (k + 1) o r (by omega) ho hr
        unfold Res at this ⊢
        rw [nb_used (by omega) hx]
        exact this
      · rw [if_neg hx] at hr
        have hc2 := cIn_ext (by omega) hc (show k < a by omega) hx
        have ho1 := viB_oW (set := x) wH hc2 (by omega) ho
        have ho2 := ms_oW (set := x) wH f (D + 1) _ _ hc2 (by omega) ho1
        have r2 := ihm (k + 1) _ r (by omega) ho2 hr
        refine Or.inr ⟨_, _, nb_free (by omega) hx, by omega, ?_⟩
        refine m178_head wH hK hy ho1 ?_
        have hcut2 : cutB (upd c D (jn k)) (D + 1) = upd c D (jn k) := by
          funext i
          unfold cutB
          by_cases q : i < D + 1
          · rw [if_pos q]
          · rw [if_neg q]
            unfold upd
            rw [if_neg (by omega), ← hcut]
            exact (if_neg (by omega)).symm
        have r3 := ih (D + 1) (upd c D (jn k)) (by omega) hc2 hcut2 a 0 (viB H x (upd c D (jn k)) (D + 1) o) r (by omega) ho1
        refine r3 ?_
        rw [msFrom_all]
        have e1 : nbB a (D + 1) (upd c D (jn k)) a = nbB a D c (k + 1) := by
          rw [nb_end]
          have q1 : cutB (upd c D (jn k)) D = c := by
            refine Eq.trans ?_ hcut
            funext i
            unfold cutB
            by_cases q : i < D
            · rw [if_pos q, if_pos q]
              exact if_neg (by omega)
            · rw [if_neg q, if_neg q]
          have q2 : upd c D (jn k) D = jn k := if_pos rfl
          rw [q1, q2, jn_clamp (by omega)]
        unfold Res at r2 ⊢
        rw [e1]
        exact r2
/-- soonest -/
theorem m178 (w : rO K a b l 55 M H) (hK : K ≤ 1000000) (hy : M 11 (0, 0) 25 = 0) : ∃ M2, iEq M M2 ∧ jE (d + 20) 178 0 (lm [.inl x, .inl y] ++ [none, none, none, none]) [] (n, ([], M)) (some (.inl (lwSoon H a x y))) (n, ([], M2)) := by
  have w1 := w.1.1
  unfold lwSoon
  by_cases h1 : 0 ≤ x ∧ x ≤ 255
  · by_cases h2 : 0 ≤ y ∧ y ≤ 7
    · have hc0 : cIn 0 a (fun _ => (0 : Int32)) := ⟨fun i hi => absurd hi (by omega), fun i j hi => absurd hi (by omega)⟩
      have ho0 : oW exZ := Or.inl ⟨rfl, rfl⟩
      have xr : XR d n K a b M H x y (fun _ => 0) 0 exZ (exBest H a x) := by
        rw [ex_best w.1 hK]
        refine m178_head w.1 hK hy ho0 ?_
        refine m178_dfs w.1 hK hy 7 0 (fun _ => 0) (by omega) hc0 (funext fun i => if_neg (by omega)) a 0 exZ _ (by omega) ho0 ?_
        rw [msFrom_all]
        exact Or.inl ⟨nb_end0, rfl⟩
      have hor : oW (exBest H a x) := by
        rw [ex_best w.1 hK]
        exact ms_oW w.1 7 0 _ _ hc0 (by omega) ho0
      have wt := rO_take w
      have w0 : rO K a b 0 60 (mC M (60, 0) (upd (fun j => if j < 39 then M 12 (55, 0) j else M 12 (60, 0) j) 7 0)) (hb H (fun _ => 0) 0) := by
        refine rO_mC (Or.inr rfl) (hOk_b w.1 hc0) (rS_rows w.2.1 (hb_f (by decide) (by decide)) (hb_f (by decide) (by decide)) (hb_f (by decide) (by decide)) (hb_f (by decide) (by decide)) (hb_f (by decide) (by decide))) ?_
        have r := wt.2.2.1
        rw [mC_at] at r
        have u : ∀ t, t ≠ 7 → upd (fun j => if j < 39 then M 12 (55, 0) j else M 12 (60, 0) j) 7 0 t = (fun j => if j < 39 then M 12 (55, 0) j else M 12 (60, 0) j) t := fun t ht => if_neg ht
        refine ⟨fun i hi => absurd hi (by omega), ⟨?_, ?_, ?_, ?_⟩, fun t ht => ⟨?_, ?_, ?_⟩, fun t ht => ?_⟩
        · unfold hb; rw [hSc_10]; exact if_pos rfl
        · rw [u _ (by omega), r.2.1.2.1]; unfold hb; rw [hSc_10' (by decide), nset_ne (by decide)]
        · rw [u _ (by omega), r.2.1.2.2.1]; unfold hb; rw [hSc_10' (by decide), nset_ne (by decide)]
        · rw [u _ (by omega), r.2.1.2.2.2]; unfold hb; rw [hSc_10' (by decide), nset_ne (by decide)]
        · rw [u _ (by omega), (r.2.2.1 t ht).1, hb_f (by decide) (by decide)]
        · rw [u _ (by omega), (r.2.2.1 t ht).2.1, hb_f (by decide) (by decide)]
        · rw [u _ (by omega), (r.2.2.1 t ht).2.2, hb_f (by decide) (by decide)]
        · rw [u _ (by omega), r.2.2.2 t ht, hb_f (by decide) (by decide)]
      obtain ⟨M2, a5', a6', i2, bs, e⟩ := xr _ none none iEq_60 w0 (fun i hi => absurd hi (Nat.not_lt_zero i))
      refine ⟨M2, i2, jE_of (fun v σ' => ?_)⟩
      rw [if_pos ⟨h1, h2⟩]
      simp only [lm, List.map_cons, List.map_nil, s178_0, s178_1, s178_2, s178_5, s178_8, s178_11, s178_12, s178_13, s178_15, s178_18, s178_23, s178_24, s178_27, s178_28, s178_31, s178_33, s178_34, s178_35, s178_37, s178_38, s178_39, r123, r142, jcall_eq, Option.toList_some, Option.toList_none, List.cons_append, List.nil_append, jb_0, Classical.not_not, jifN, if_pos h1, if_pos h2, jm_60, jk7, ji7 (show 7 < 39 by decide), mC_up, mC_at, mC_mC]
      refine (e v σ').trans ?_
      generalize exBest H a x = r at hor bs ⊢
      have ey := jx_of h2.1
      have hy7 := jx_le h2.1 (k := 7) (by omega) h2.2
      simp only [s178_135, s178_136, s178_139, s178_140, s178_142, s178_145, s178_146, s178_149, s178_150, s178_152, s178_155, s178_156, s178_159, s178_160, s178_161, s178_162, s178_163, s178_166, s178_168, jm_66, jifN]
      rcases hor with ⟨q1, q2⟩ | ⟨q1, q2, m, q3, q4⟩
      · have el : lwl r = -4 := if_pos q1
        rw [el, if_pos rfl, if_c, if_pos (Or.inl q1)]
      · have el : lwl r = r.2.2 := if_neg (by omega)
        rw [el]
        by_cases c1 : y = 0
        · rw [if_pos c1, if_neg (show ¬ (r.2.1 = 0 ∨ r.2.1 < y.toNatClampNeg) from fun z => z.elim (fun z => by omega) (fun z => by rw [c1] at z; exact absurd z (by show ¬ r.2.1 < 0; omega))), if_pos c1]
        · have hne : y.toNatClampNeg ≠ 0 := fun z => c1 (by rw [← ey, z]; rfl)
          rw [if_neg c1, if_neg (show ¬ r.2.2 = -4 by rw [q4]; exact jn_ne4 (by omega))]
          by_cases c2 : r.2.1 < y.toNatClampNeg
          · rw [if_pos (show jn r.2.1 < y by rw [← ey]; exact (jn_lt (by omega) (jx_lt y)).mpr c2), if_pos (Or.inr c2)]
          · rw [if_neg (show ¬ jn r.2.1 < y by rw [← ey]; exact fun z => c2 ((jn_lt (by omega) (jx_lt y)).mp z)), if_neg (show ¬ (r.2.1 = 0 ∨ r.2.1 < y.toNatClampNeg) from fun z => z.elim (fun z => by omega) c2), if_neg c1]
            have e3 : y - 1 = jn (y.toNatClampNeg - 1) := by
              conv => lhs; rw [← ey, show y.toNatClampNeg = y.toNatClampNeg - 1 + 1 by omega]
              exact jn_sub1 _
            rw [e3, jn_clamp (by omega), bs _ (by omega)]
            exact ⟨fun z => z.2, fun z => ⟨⟨jn_pos (by omega), by omega⟩, z⟩⟩
    · refine ⟨M, iEq_rfl M, jE_of (fun v σ' => ?_)⟩
      rw [if_neg (fun z => h2 z.2)]
      simp only [lm, List.map_cons, List.map_nil, s178_0, s178_1, s178_2, s178_5, s178_8, s178_11, s178_12, s178_13, s178_15, s178_18, s178_21, s178_22, r123, jcall_eq, Option.toList_some, Option.toList_none, List.cons_append, List.nil_append, jb_0, Classical.not_not, jifN, if_pos h1, if_neg h2]
  · refine ⟨M, iEq_rfl M, jE_of (fun v σ' => ?_)⟩
    rw [if_neg (fun z => h1 z.1)]
    simp only [lm, List.map_cons, List.map_nil, s178_0, s178_1, s178_2, s178_5, s178_8, s178_21, s178_22, r123, jcall_eq, Option.toList_some, Option.toList_none, List.cons_append, List.nil_append, jb_0, Classical.not_not, jifN, if_neg h1]
end JRY
