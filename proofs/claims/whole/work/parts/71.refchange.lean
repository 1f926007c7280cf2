/-! the reference's calls that change something -/
def knC (B N : Nat → Int32) (c : Nat) : Nat → Int32 := fun j => if c = 8 then (if j < 273 then B (39 + j) else if j < 312 then N (j - 273) else B j) else (if 39 * c ≤ j ∧ j < 39 * c + 39 then N (j - 39 * c) else B j)
def knM (M : jM) (c : Nat) : jM := jUp (mC M (56, 0) (knC (M 12 (56, 0)) (M 12 (55, 0)) c)) 11 (0, 0) 17 (jn (min 8 (c + 1)))
def unM (M : jM) (c : Nat) : jM := mC (jUp M 11 (0, 0) 17 (jn c)) (55, 0) (fun j => if j < 39 then M 12 (56, 0) (39 * c + j) else M 12 (55, 0) j)
def kpR (M : jM) (c : Nat) : jM := jUp (mC M (58, 0) (fun j => if 39 * c ≤ j ∧ j < 39 * c + 39 then M 12 (55, 0) (j - 39 * c) else M 12 (58, 0) j)) 11 (0, 0) 19 (jn (c + 1))
def bkR (M : jM) (c : Nat) : jM := jUp (mC (jUp M 11 (0, 0) 19 (jn c)) (55, 0) (fun j => if j < 39 then M 12 (58, 0) (39 * c + j) else M 12 (55, 0) j)) 11 (0, 0) 17 0
theorem jnM39 (q : Nat) : (39 : Int32) * jn q = jn (39 * q) := jn_mul 39 q
theorem jnA39 (q : Nat) : (39 : Int32) + jn q = jn (39 + q) := jn_add 39 q
section JRM
variable {d n K a b l f D : Nat} {v : Option jV} {σ' : jS} {M M' N : jM} {x y z set : Int32} {h g nv H : jH} {c : Nat → Int32}
theorem mC_jUp {k s : Nat} {a e : jA} {c : Nat → Int32} (h : k ≠ 12) : mC (jUp M k a s x) e c = jUp (mC M e c) k a s x := by
  funext k' a' s'
  unfold mC jUp
  by_cases e1 : k' = 12 ∧ a' = e
  · rw [if_pos e1, if_neg (fun z => h (z.1.symm.trans e1.1))]
    exact (if_pos e1).symm
  · rw [if_neg e1]
    simp only [if_neg e1]
theorem r163_shift : ∀ (m k : Nat) (B : Nat → Int32), k + m = 273 → (∀ j, B j = if j < k then M 12 (56, 0) (39 + j) else M 12 (56, 0) j) → (jE d 163 11 [some (.inr (.inr (some (11, (0, 0))))), some (.inl (jn k))] [] (n, ([], mC M (56, 0) B)) v σ' ↔ jE d 163 39 [some (.inr (.inr (some (11, (0, 0))))), some (.inl (jn 273))] [] (n, ([], mC M (56, 0) (fun j => if j < 273 then M 12 (56, 0) (39 + j) else M 12 (56, 0) j))) v σ') := by
  intro m
  induction m with
  | zero =>
    intro k B hk hB
    rw [s163_11, s163_12, s163_15, if_pos (show (273 : Int32) ≤ jn k from (jn_le (k := 273) (by omega) (by omega)).mpr (by omega)), show k = 273 by omega]
    rw [show B = fun j => if j < 273 then M 12 (56, 0) (39 + j) else M 12 (56, 0) j from funext fun j => by rw [hB, show k = 273 by omega]]
  | succ m ih =>
    intro k B hk hB
    rw [s163_11, s163_12, s163_15, if_neg (show ¬ (273 : Int32) ≤ jn k from fun z => absurd ((jn_le (k := 273) (by omega) (by omega)).mp z) (by omega))]
    have e : B (39 + k) = M 12 (56, 0) (39 + k) := by rw [hB, if_neg (by omega)]
    simp (disch := omega) only [s163_18, s163_19, s163_22, s163_23, s163_24, s163_27, s163_29, s163_30, s163_31, s163_32, s163_33, jm_56, mC_at, mC_up, mC_mC, jnA39, jiz, jcl, e]
    rw [s163_36, jn_1]
    refine ih (k + 1) _ (by omega) (fun j => ?_)
    unfold upd
    by_cases e1 : j = k
    · rw [if_pos e1, if_pos (by omega), e1]
    · rw [if_neg e1, hB]
      by_cases e2 : j < k
      · rw [if_pos e2, if_pos (by omega)]
      · rw [if_neg e2, if_neg (by omega)]
theorem r163_put {q : Nat} (hq : q < 8) (hm : N 11 (0, 0) 17 = jn q) : ∀ (m k : Nat) (B : Nat → Int32) (B0 : Nat → Int32), k + m = 39 → (∀ j, B j = if 39 * q ≤ j ∧ j < 39 * q + k then N 12 (55, 0) (j - 39 * q) else B0 j) → (jE d 163 51 [some (.inr (.inr (some (11, (0, 0))))), some (.inl (jn k))] [] (n, ([], mC N (56, 0) B)) v σ' ↔ v = none ∧ σ' = (n, ([], jUp (mC N (56, 0) (fun j => if 39 * q ≤ j ∧ j < 39 * q + 39 then N 12 (55, 0) (j - 39 * q) else B0 j)) 11 (0, 0) 17 (jn (q + 1))))) := by
  intro m
  induction m with
  | zero =>
    intro k B B0 hk hB
    rw [s163_51, s163_52, s163_54, if_pos (show (39 : Int32) ≤ jn k from (jn_le (k := 39) (by omega) (by omega)).mpr (by omega))]
    rw [show B = fun j => if 39 * q ≤ j ∧ j < 39 * q + 39 then N 12 (55, 0) (j - 39 * q) else B0 j from funext fun j => by rw [hB, show k = 39 by omega]]
    simp only [s163_83, s163_84, s163_85, s163_88, s163_89, s163_90, s163_93, mC_k (show (11 : Nat) ≠ 12 by decide), hm, jn_1]
  | succ m ih =>
    intro k B B0 hk hB
    rw [s163_51, s163_52, s163_54, if_neg (show ¬ (39 : Int32) ≤ jn k from fun z => absurd ((jn_le (k := 39) (by omega) (by omega)).mp z) (by omega))]
    simp (disch := omega) only [s163_57, s163_58, s163_61, s163_63, s163_64, s163_67, s163_68, s163_69, s163_70, s163_71, s163_74, s163_75, s163_76, s163_77, jm_55, jm_56, mC_k (show (11 : Nat) ≠ 12 by decide), hm, mC_ne (show ((55, 0) : jA) ≠ (56, 0) by decide), mC_up, mC_at, mC_mC, jnM39, jn_add, jiz, jcl]
    rw [s163_80, jn_1]
    refine ih (k + 1) _ B0 (by omega) (fun j => ?_)
    unfold upd
    by_cases e1 : j = 39 * q + k
    · rw [if_pos e1, if_pos (by omega), e1, show 39 * q + k - 39 * q = k by omega]
    · rw [if_neg e1, hB]
      by_cases e2 : 39 * q ≤ j ∧ j < 39 * q + k
      · rw [if_pos e2, if_pos (by omega)]
      · rw [if_neg e2, if_neg (by omega)]
/-- know -/
theorem r163 {q : Nat} (hq : q ≤ 8) (hm : M 11 (0, 0) 17 = jn q) : jE d 163 0 [some (.inr (.inr (some (11, (0, 0))))), none] [] (n, ([], M)) v σ' ↔ v = none ∧ σ' = (n, ([], knM M q)) := by
  unfold knM knC
  by_cases c8 : q = 8
  · subst c8
    simp only [s163_0, s163_1, s163_4, s163_6, s163_9, s163_10, hm]
    rw [if_neg (show ¬ ¬ jn 8 = 8 from fun z => z rfl)]
    have e := r163_shift (d := d) (n := n) (v := v) (σ' := σ') (M := M) 273 0 (M 12 (56, 0)) (by omega) (fun j => by rw [if_neg (by omega)])
    rw [mC_self] at e
    refine e.trans ?_
    have e7 : jn 8 - 1 = jn 7 := jn_sub1 7
    simp only [s163_39, s163_40, s163_41, s163_44, s163_45, s163_46, s163_49, s163_50, mC_k (show (11 : Nat) ≠ 12 by decide), hm, e7]
    have p := r163_put (d := d) (n := n) (v := v) (σ' := σ') (N := jUp (mC M (56, 0) (fun j => if j < 273 then M 12 (56, 0) (39 + j) else M 12 (56, 0) j)) 11 (0, 0) 17 (jn 7)) (q := 7) (by omega) (jUp_at _ _ _ _ _) 39 0 (fun j => if j < 273 then M 12 (56, 0) (39 + j) else M 12 (56, 0) j) (fun j => if j < 273 then M 12 (56, 0) (39 + j) else M 12 (56, 0) j) (by omega) (fun j => (if_neg (by omega)).symm)
    rw [mC_jUp (by decide), mC_mC, jUp_k (show (12 : Nat) ≠ 11 by decide), mC_ne (show ((55, 0) : jA) ≠ (56, 0) by decide), mC_jUp (by decide), mC_mC, jUp_up] at p
    refine p.trans ?_
    rw [show (fun j => if 39 * 7 ≤ j ∧ j < 39 * 7 + 39 then M 12 (55, 0) (j - 39 * 7) else if j < 273 then M 12 (56, 0) (39 + j) else M 12 (56, 0) j) = (fun j => if 8 = 8 then (if j < 273 then M 12 (56, 0) (39 + j) else if j < 312 then M 12 (55, 0) (j - 273) else M 12 (56, 0) j) else (if 39 * 8 ≤ j ∧ j < 39 * 8 + 39 then M 12 (55, 0) (j - 39 * 8) else M 12 (56, 0) j)) from funext fun j => by
      rw [if_pos rfl]
      by_cases e1 : j < 273
      · rw [if_neg (by omega), if_pos e1, if_pos e1]
      · by_cases e2 : j < 312
        · rw [if_pos (by omega), if_neg e1, if_pos e2]
        · rw [if_neg (by omega), if_neg e1, if_neg e1, if_neg e2]]
    rfl
  · simp only [s163_0, s163_1, s163_4, s163_6, s163_49, s163_50, hm]
    rw [if_pos (show ¬ jn q = 8 from fun z => c8 (jn_inj (a := q) (b := 8) (by omega) (by omega) z))]
    have p := r163_put (d := d) (n := n) (v := v) (σ' := σ') (N := M) (q := q) (by omega) hm 39 0 (M 12 (56, 0)) (M 12 (56, 0)) (by omega) (fun j => by rw [if_neg (by omega)])
    rw [mC_self] at p
    refine p.trans ?_
    rw [show min 8 (q + 1) = q + 1 by omega]
    rw [show (fun j => if 39 * q ≤ j ∧ j < 39 * q + 39 then M 12 (55, 0) (j - 39 * q) else M 12 (56, 0) j) = (fun j => if q = 8 then (if j < 273 then M 12 (56, 0) (39 + j) else if j < 312 then M 12 (55, 0) (j - 273) else M 12 (56, 0) j) else (if 39 * q ≤ j ∧ j < 39 * q + 39 then M 12 (55, 0) (j - 39 * q) else M 12 (56, 0) j)) from funext fun j => by rw [if_neg c8]]
theorem rO_knM {q : Nat} (w : rO K a b l 55 M h) : rO K a b l 55 (knM M q) h := by
  refine ⟨w.1, ?_, ?_, w.2.2.2⟩
  · unfold rS knM
    rw [jUp_k (by decide), mC_ne (by decide), mC_ne (by decide), mC_ne (by decide), mC_ne (by decide), mC_ne (by decide), mC_ne (by decide), mC_ne (by decide)]
    exact w.2.1
  · unfold knM
    rw [jUp_k (by decide), mC_ne (by decide)]
    exact w.2.2.1
theorem knM_11 {q s : Nat} (hs : s ≠ 17) : knM M q 11 (0, 0) s = M 11 (0, 0) s := by
  unfold knM
  rw [jUp_s hs, mC_k (by decide)]
/-- add -/
theorem m169_no (w : rO K a b l 55 M h) (h1 : ¬ lwIsSc h x) : jE (d + 20) 169 0 (lm [.inl x]) [] (n, ([], M)) v σ' ↔ v = some (.inl (-1)) ∧ σ' = (n, ([], M)) := by
  have h1' : ¬ (0 ≤ x ∧ x ≤ h 10 10 - 1) := h1
  simp only [lm, List.map_cons, List.map_nil, s169_0, s169_1, s169_2, s169_5, s169_8, s169_9, r143 w.2.1 w.1.2.1.1, jcall_eq, Option.toList_some, Option.toList_none, List.cons_append, List.nil_append, jb_0, Classical.not_not, jifN, if_neg h1']
theorem m169_on (w : rO K a b l 55 M h) (h1 : lwIsSc h x) (h2 : hBilled h x) : jE (d + 20) 169 0 (lm [.inl x]) [] (n, ([], M)) v σ' ↔ v = some (.inl (-2)) ∧ σ' = (n, ([], M)) := by
  have h1' : 0 ≤ x ∧ x ≤ h 10 10 - 1 := h1
  simp only [lm, List.map_cons, List.map_nil, s169_0, s169_1, s169_2, s169_5, s169_10, s169_11, s169_14, s169_15, s169_18, s169_20, s169_23, s169_25, r143 w.2.1 w.1.2.1.1, r145 w, jcall_eq, Option.toList_some, Option.toList_none, List.cons_append, List.nil_append, jb_0, Classical.not_not, jifN, if_pos h1']
  rw [if_neg h2]
theorem m169_yes (w : rO K a b l 55 M h) (h1 : lwIsSc h x) (h2 : ¬ hBilled h x) {q : Nat} (hq : q ≤ 8) (hm : M 11 (0, 0) 17 = jn q) : ∃ c', rD a b (l + 1) c' (hMount h x l) ∧ ∀ (v : Option jV) (σ' : jS), jE (d + 20) 169 0 (lm [.inl x]) [] (n, ([], M)) v σ' ↔ v = some (.inl (jn l)) ∧ σ' = (n, ([], mC (knM M q) (55, 0) c')) := by
  have w1 := w.1.1
  have h1' : 0 ≤ x ∧ x ≤ h 10 10 - 1 := h1
  obtain ⟨s, hs, es⟩ := (lw_scene w.1).mp h1
  have hl : l < a := by rw [es] at h2; exact hOk_room w.1 hs h2
  have wk := rO_knM (q := q) w
  obtain ⟨c', r', et⟩ := r164 (d := d + 19) (n := n) (x := x) wk (show l < 7 by omega) (Nat.le_refl l)
  refine ⟨c', r', fun v σ' => ?_⟩
  have e7 : c' 7 = jn (l + 1) := by
    rw [r'.2.1.1]
    unfold hMount
    rw [hSc_10, hOk_B w.1]
  simp only [lm, List.map_cons, List.map_nil, s169_0, s169_1, s169_2, s169_5, s169_10, s169_11, s169_14, s169_15, s169_18, s169_20, s169_26, s169_27, r143 w.2.1 w.1.2.1.1, r145 w, r163 hq hm, jcall_eq, Option.toList_some, Option.toList_none, List.cons_append, List.nil_append, jb_0, Classical.not_not, jifN, if_pos h1']
  rw [if_pos (Classical.not_not.mp h2)]
  simp only [s169_30, s169_31, s169_34, s169_35, s169_36, s169_39, s169_41, s169_42, s169_45, s169_46, s169_49, s169_51, s169_52, s169_53, s169_54, jm_55, jk7, ji7 (show 7 < 39 by decide), wk.2.2.1.2.1.1, wk.1.2.1.2.2, et, jcall_eq, Option.toList_some, Option.toList_none, List.cons_append, List.nil_append, mC_at, e7, jn_sub1]
/-- cut -/
theorem m170_no (w : rO K a b l 55 M h) (h1 : ¬ lwIsSc h x) : jE (d + 20) 170 0 (lm [.inl x] ++ [none]) [] (n, ([], M)) v σ' ↔ v = some (.inl (-1)) ∧ σ' = (n, ([], M)) := by
  have h1' : ¬ (0 ≤ x ∧ x ≤ h 10 10 - 1) := h1
  simp only [lm, List.map_cons, List.map_nil, s170_0, s170_1, s170_2, s170_5, s170_8, s170_9, r143 w.2.1 w.1.2.1.1, jcall_eq, Option.toList_some, Option.toList_none, List.cons_append, List.nil_append, jb_0, Classical.not_not, jifN, if_neg h1']
theorem m170_off (w : rO K a b l 55 M h) (h1 : lwIsSc h x) (h2 : ¬ hBilled h x) : jE (d + 20) 170 0 (lm [.inl x] ++ [none]) [] (n, ([], M)) v σ' ↔ v = some (.inl (-2)) ∧ σ' = (n, ([], M)) := by
  have h1' : 0 ≤ x ∧ x ≤ h 10 10 - 1 := h1
  simp only [lm, List.map_cons, List.map_nil, s170_0, s170_1, s170_2, s170_5, s170_10, s170_11, s170_14, s170_15, s170_18, s170_19, s170_20, s170_22, s170_25, s170_27, r143 w.2.1 w.1.2.1.1, r145 w, jcall_eq, Option.toList_some, Option.toList_none, List.cons_append, List.nil_append, jb_0, Classical.not_not, jifN, if_pos h1']
  rw [if_pos (Classical.not_not.mp h2)]
theorem m170_yes (w : rO K a b l 55 M h) (h1 : lwIsSc h x) (h2 : hBilled h x) {q : Nat} (hq : q ≤ 8) (hm : M 11 (0, 0) 17 = jn q) : ∃ c', rD a b (l - 1) c' (hStrike h x) ∧ ∀ (v : Option jV) (σ' : jS), jE (d + 20) 170 0 (lm [.inl x] ++ [none]) [] (n, ([], M)) v σ' ↔ v = some (.inl (hStrike h x 10 12)) ∧ σ' = (n, ([], mC (knM M q) (55, 0) c')) := by
  have w1 := w.1.1
  have h1' : 0 ≤ x ∧ x ≤ h 10 10 - 1 := h1
  have wk := rO_knM (q := q) w
  obtain ⟨p, hp, ep⟩ := (hOk_billed w.1).mp h2
  have e1 := hOk_at w.1 hp ep
  obtain ⟨c', r', et⟩ := r165 (d := d + 19) (n := n) wk hp ep
  refine ⟨c', r', fun v σ' => ?_⟩
  simp only [lm, List.map_cons, List.map_nil, s170_0, s170_1, s170_2, s170_5, s170_10, s170_11, s170_14, s170_15, s170_18, s170_19, s170_20, s170_22, s170_28, s170_29, r143 w.2.1 w.1.2.1.1, r145 w, e1, r163 hq hm, jcall_eq, Option.toList_some, Option.toList_none, List.cons_append, List.nil_append, jb_0, Classical.not_not, jifN, if_pos h1']
  rw [if_neg (jn_ne4 (by omega))]
  simp only [s170_32, s170_33, s170_36, s170_37, s170_40, s170_41, s170_44, s170_46, s170_47, jm_55, jk7, ji7 (show 7 < 39 by decide), et, jcall_eq, Option.toList_some, Option.toList_none, List.cons_append, List.nil_append, mC_at, r'.2.1.1]
/-- play -/
theorem m171_no (w : rO K a b l 55 M h) (h1 : ¬ hCanOpen h) : jE (d + 20) 171 0 (lm []) [] (n, ([], M)) v σ' ↔ v = some (.inl (-2)) ∧ σ' = (n, ([], M)) := by
  simp only [lm, List.map_nil, s171_0, s171_1, s171_2, s171_5, s171_8, s171_11, s171_13, r157 w, jcall_eq, Option.toList_some, Option.toList_none, List.cons_append, List.nil_append, jb_0, Classical.not_not, jifN]
  rw [if_neg h1]
theorem m171_yes (w : rO K a b l 55 M h) (hK : K ≤ 1000000) (hy : M 11 (0, 0) 25 = 0) (h1 : hCanOpen h) {q : Nat} (hq : q ≤ 8) (hm : M 11 (0, 0) 17 = jn q) : ∃ c' g, rD a b l c' (hSettle (nUnfold h 0) h) ∧ ∀ (v : Option jV) (σ' : jS), jE (d + 20) 171 0 (lm []) [] (n, ([], M)) v σ' ↔ v = some (.inl (jb (hPass h))) ∧ σ' = (n, ([], sG (mC (knM M q) (55, 0) c') g)) := by
  have w1 := w.1.1
  have hl : 0 < l := by
    have := h1.1
    rw [w.1.2.1.2.2] at this
    exact (jn_lt (k := 0) (by omega) (by omega)).mp this
  have wk := rO_knM (q := q) w
  obtain ⟨c', g, r', et⟩ := r158 (d := d + 14) (n := n) wk hK hl (by rw [knM_11 (by decide)]; exact hy)
  refine ⟨c', g, r', fun v σ' => ?_⟩
  simp only [lm, List.map_nil, s171_0, s171_1, s171_2, s171_5, s171_8, s171_14, s171_15, s171_18, s171_19, s171_20, s171_23, s171_26, s171_29, s171_30, s171_33, s171_34, r157 w, r163 hq hm, et, jcall_eq, Option.toList_some, Option.toList_none, List.cons_append, List.nil_append, jb_0, Classical.not_not, jifN, if_pos h1, jif]
  rfl
/-- swap -/
theorem m172_no (w : rO K a b l 55 M h) (h1 : ¬ (lwIsSe h x ∧ lwIsSe h y ∧ x ≠ y)) : jE (d + 20) 172 0 (lm [.inl x, .inl y]) [] (n, ([], M)) v σ' ↔ v = some (.inl (-1)) ∧ σ' = (n, ([], M)) := by
  simp only [lm, List.map_cons, List.map_nil, s172_0, s172_1, s172_2, s172_5, s172_8, s172_9, s172_10, s172_13, s172_16, s172_17, s172_18, s172_21, s172_22, r144 w.2.1 w.1.2.1.2.1, jcall_eq, Option.toList_some, Option.toList_none, List.cons_append, List.nil_append, jb_0, Classical.not_not, jifN]
  by_cases e1 : 0 ≤ x ∧ x ≤ h 10 11 - 1
  · rw [if_pos e1]
    by_cases e2 : 0 ≤ y ∧ y ≤ h 10 11 - 1
    · rw [if_pos e2]
      by_cases e3 : x = y
      · rw [if_pos e3]
      · exact absurd ⟨e1, e2, e3⟩ h1
    · rw [if_neg e2]
  · rw [if_neg e1]
theorem m172_yes (w : rO K a b l 55 M h) (h1 : lwIsSe h x ∧ lwIsSe h y ∧ x ≠ y) {q : Nat} (hq : q ≤ 8) (hm : M 11 (0, 0) 17 = jn q) : ∃ c', rD a b l c' (hTrade h x y) ∧ ∀ (v : Option jV) (σ' : jS), jE (d + 20) 172 0 (lm [.inl x, .inl y]) [] (n, ([], M)) v σ' ↔ v = some (.inl (hInLine (hTrade h x y) x)) ∧ σ' = (n, ([], mC (knM M q) (55, 0) c')) := by
  obtain ⟨e1, e2, e3⟩ := h1
  have e1' : 0 ≤ x ∧ x ≤ h 10 11 - 1 := e1
  have e2' : 0 ≤ y ∧ y ≤ h 10 11 - 1 := e2
  obtain ⟨s, hs, es⟩ := (lw_seat w.1).mp e1
  obtain ⟨t, ht, et⟩ := (lw_seat w.1).mp e2
  have wk := rO_knM (q := q) w
  obtain ⟨c', r', ec⟩ := r166 (d := d + 18) (n := n) wk hs ht
  have wt : rO K a b l 55 (mC (knM M q) (55, 0) c') (hTrade h (jn s) (jn t)) := rO_mC (Or.inl rfl) (hOk_trade w.1 hs ht) (rS_rows wk.2.1 (nset_ne (by decide)) (nset_ne (by decide)) (nset_ne (by decide)) (nset_ne (by decide)) (nset_ne (by decide))) r'
  rw [es, et]
  rw [es] at e1' e3
  rw [et] at e2' e3
  refine ⟨c', r', fun v σ' => ?_⟩
  simp only [lm, List.map_cons, List.map_nil, s172_0, s172_1, s172_2, s172_5, s172_8, s172_9, s172_10, s172_13, s172_16, s172_17, s172_18, s172_23, s172_24, s172_27, s172_28, s172_29, s172_32, s172_33, s172_34, s172_37, s172_38, s172_39, s172_42, s172_43, s172_46, r144 w.2.1 w.1.2.1.2.1, r163 hq hm, ec, r146 wt hs, jcall_eq, Option.toList_some, Option.toList_none, List.cons_append, List.nil_append, jb_0, Classical.not_not, jifN, if_pos e1', if_pos e2']
  rw [if_neg e3]
/-- hire -/
theorem m173_no (w : rO K a b l 55 M h) (h1 : ¬ lwIsSe h x) : jE (d + 20) 173 0 (lm [.inl x]) [] (n, ([], M)) v σ' ↔ v = some (.inl (-1)) ∧ σ' = (n, ([], M)) := by
  have h1' : ¬ (0 ≤ x ∧ x ≤ h 10 11 - 1) := h1
  simp only [lm, List.map_cons, List.map_nil, s173_0, s173_1, s173_2, s173_5, s173_8, s173_9, r144 w.2.1 w.1.2.1.2.1, jcall_eq, Option.toList_some, Option.toList_none, List.cons_append, List.nil_append, jb_0, Classical.not_not, jifN, if_neg h1']
theorem m173_cant (w : rO K a b l 55 M h) (h1 : lwIsSe h x) (h2 : ¬ hCanEng h x) : jE (d + 20) 173 0 (lm [.inl x]) [] (n, ([], M)) v σ' ↔ v = some (.inl (-2)) ∧ σ' = (n, ([], M)) := by
  have h1' : 0 ≤ x ∧ x ≤ h 10 11 - 1 := h1
  obtain ⟨s, hs, es⟩ := (lw_seat w.1).mp h1
  rw [es] at h1' h2 ⊢
  simp only [lm, List.map_cons, List.map_nil, s173_0, s173_1, s173_2, s173_5, s173_10, s173_11, s173_14, s173_15, s173_18, s173_21, s173_23, r144 w.2.1 w.1.2.1.2.1, r167 w hs, jcall_eq, Option.toList_some, Option.toList_none, List.cons_append, List.nil_append, jb_0, Classical.not_not, jifN, if_pos h1']
  rw [if_neg h2]
theorem m173_yes (w : rO K a b l 55 M h) (h1 : lwIsSe h x) (h2 : hCanEng h x) {q : Nat} (hq : q ≤ 8) (hm : M 11 (0, 0) 17 = jn q) : ∃ c', rD a b l c' (hEng h x) ∧ ∀ (v : Option jV) (σ' : jS), jE (d + 20) 173 0 (lm [.inl x]) [] (n, ([], M)) v σ' ↔ v = some (.inl (hEng h x 10 13)) ∧ σ' = (n, ([], mC (knM M q) (55, 0) c')) := by
  have h1' : 0 ≤ x ∧ x ≤ h 10 11 - 1 := h1
  obtain ⟨s, hs, es⟩ := (lw_seat w.1).mp h1
  have wk := rO_knM (q := q) w
  obtain ⟨c', r', et⟩ := r168 (d := d + 19) (n := n) wk hs
  rw [es] at h1' h2 ⊢
  refine ⟨c', r', fun v σ' => ?_⟩
  simp only [lm, List.map_cons, List.map_nil, s173_0, s173_1, s173_2, s173_5, s173_10, s173_11, s173_14, s173_15, s173_18, s173_24, s173_25, s173_28, s173_29, s173_32, s173_33, s173_36, s173_37, s173_40, s173_42, s173_43, r144 w.2.1 w.1.2.1.2.1, r167 w hs, r163 hq hm, et, jcall_eq, Option.toList_some, Option.toList_none, List.cons_append, List.nil_append, jb_0, Classical.not_not, jifN, if_pos h1', jm_55, jk8, ji8 (show 8 < 39 by decide), mC_at, r'.2.1.2.1]
  rw [if_pos h2]
/-- undo -/
theorem m174_no (hm : M 11 (0, 0) 17 = 0) : jE (d + 20) 174 0 (lm [] ++ [none]) [] (n, ([], M)) v σ' ↔ v = some (.inl (-2)) ∧ σ' = (n, ([], M)) := by
  simp only [lm, List.map_nil, jcall_eq, Option.toList_some, Option.toList_none, List.cons_append, List.nil_append, s174_0, s174_1, s174_4, s174_7, s174_9, hm, not_true_eq_false, if_false]
theorem m174_loop {q : Nat} (hq : q < 8) (hm : N 11 (0, 0) 17 = jn q) {c0 : Nat → Int32} : ∀ (m k : Nat) (c : Nat → Int32), k + m = 39 → (∀ j, c j = if j < k then N 12 (56, 0) (39 * q + j) else c0 j) → (jE d 174 22 [some (.inr (.inr (some (11, (0, 0))))), some (.inl (jn k))] [] (n, ([], mC N (55, 0) c)) v σ' ↔ v = some (.inl (jn q)) ∧ σ' = (n, ([], mC N (55, 0) (fun j => if j < 39 then N 12 (56, 0) (39 * q + j) else c0 j)))) := by
  intro m
  induction m with
  | zero =>
    intro k c hk hc
    rw [s174_22, s174_23, s174_25, if_pos (show (39 : Int32) ≤ jn k from (jn_le (k := 39) (by omega) (by omega)).mpr (by omega))]
    simp only [s174_54, s174_55, s174_58, mC_k (show (11 : Nat) ≠ 12 by decide), hm]
    rw [show c = fun j => if j < 39 then N 12 (56, 0) (39 * q + j) else c0 j from funext fun j => by rw [hc, show k = 39 by omega]]
  | succ m ih =>
    intro k c hk hc
    rw [s174_22, s174_23, s174_25, if_neg (show ¬ (39 : Int32) ≤ jn k from fun z => absurd ((jn_le (k := 39) (by omega) (by omega)).mp z) (by omega))]
    simp (disch := omega) only [s174_28, s174_29, s174_32, s174_33, s174_34, s174_37, s174_39, s174_40, s174_43, s174_44, s174_45, s174_46, s174_47, s174_48, jm_55, jm_56, mC_k (show (11 : Nat) ≠ 12 by decide), hm, mC_ne (show ((56, 0) : jA) ≠ (55, 0) by decide), mC_up, mC_at, mC_mC, jnM39, jn_add, jiz, jcl]
    rw [s174_51, jn_1]
    refine ih (k + 1) _ (by omega) (fun j => ?_)
    unfold upd
    by_cases e1 : j = k
    · rw [if_pos e1, if_pos (by omega), e1]
    · rw [if_neg e1, hc]
      by_cases e2 : j < k
      · rw [if_pos e2, if_pos (by omega)]
      · rw [if_neg e2, if_neg (by omega)]
theorem m174_yes {q : Nat} (hq : q < 8) (hm : M 11 (0, 0) 17 = jn (q + 1)) : jE (d + 20) 174 0 (lm [] ++ [none]) [] (n, ([], M)) v σ' ↔ v = some (.inl (jn q)) ∧ σ' = (n, ([], unM M q)) := by
  have e1 : ¬ jn (q + 1) = 0 := fun z => by have := jn_inj (a := q + 1) (b := 0) (by omega) (by omega) z; omega
  simp only [lm, List.map_nil, jcall_eq, Option.toList_some, Option.toList_none, List.cons_append, List.nil_append, s174_0, s174_1, s174_4, s174_10, s174_11, s174_12, s174_15, s174_16, s174_17, s174_20, s174_21, hm, e1, not_false_eq_true, if_true, jn_sub1]
  have e := m174_loop (d := d + 20) (n := n) (v := v) (σ' := σ') (N := jUp M 11 (0, 0) 17 (jn q)) hq (jUp_at _ _ _ _ _) (c0 := M 12 (55, 0)) 39 0 (M 12 (55, 0)) (by omega) (fun j => by rw [if_neg (by omega)])
  rw [jUp_k (show (12 : Nat) ≠ 11 by decide)] at e
  have e2 : mC (jUp M 11 (0, 0) 17 (jn q)) (55, 0) (M 12 (55, 0)) = jUp M 11 (0, 0) 17 (jn q) := by rw [mC_jUp (by decide), mC_self]
  rw [e2] at e
  exact e
/-- keep -/
theorem m192_no (hm : M 11 (0, 0) 19 = 2) : jE (d + 20) 192 0 (lm [] ++ [none]) [] (n, ([], M)) v σ' ↔ v = some (.inl (-3)) ∧ σ' = (n, ([], M)) := by
  simp only [lm, List.map_nil, jcall_eq, Option.toList_some, Option.toList_none, List.cons_append, List.nil_append, s192_0, s192_1, s192_4, s192_5, s192_8, s192_10, hm, not_true_eq_false, if_false]
theorem m192_loop {q : Nat} (hq : q < 2) (hm : N 11 (0, 0) 19 = jn q) {c0 : Nat → Int32} : ∀ (m k : Nat) (c : Nat → Int32), k + m = 39 → (∀ j, c j = if 39 * q ≤ j ∧ j < 39 * q + k then N 12 (55, 0) (j - 39 * q) else c0 j) → (jE d 192 13 [some (.inr (.inr (some (11, (0, 0))))), some (.inl (jn k))] [] (n, ([], mC N (58, 0) c)) v σ' ↔ v = some (.inl (jn (q + 1))) ∧ σ' = (n, ([], jUp (mC N (58, 0) (fun j => if 39 * q ≤ j ∧ j < 39 * q + 39 then N 12 (55, 0) (j - 39 * q) else c0 j)) 11 (0, 0) 19 (jn (q + 1))))) := by
  intro m
  induction m with
  | zero =>
    intro k c hk hc
    rw [s192_13, s192_14, s192_16, if_pos (show (39 : Int32) ≤ jn k from (jn_le (k := 39) (by omega) (by omega)).mpr (by omega))]
    simp only [s192_45, s192_46, s192_47, s192_50, s192_51, s192_52, s192_55, s192_56, s192_59, mC_k (show (11 : Nat) ≠ 12 by decide), hm, jn_1, jUp_at]
    rw [show c = fun j => if 39 * q ≤ j ∧ j < 39 * q + 39 then N 12 (55, 0) (j - 39 * q) else c0 j from funext fun j => by rw [hc, show k = 39 by omega]]
  | succ m ih =>
    intro k c hk hc
    rw [s192_13, s192_14, s192_16, if_neg (show ¬ (39 : Int32) ≤ jn k from fun z => absurd ((jn_le (k := 39) (by omega) (by omega)).mp z) (by omega))]
    simp (disch := omega) only [s192_19, s192_20, s192_23, s192_25, s192_26, s192_29, s192_30, s192_31, s192_32, s192_33, s192_36, s192_37, s192_38, s192_39, jm_55, jm_58, mC_k (show (11 : Nat) ≠ 12 by decide), hm, mC_ne (show ((55, 0) : jA) ≠ (58, 0) by decide), mC_up, mC_at, mC_mC, jnM39, jn_add, jiz, jcl]
    rw [s192_42, jn_1]
    refine ih (k + 1) _ (by omega) (fun j => ?_)
    unfold upd
    by_cases e1 : j = 39 * q + k
    · rw [if_pos e1, if_pos (by omega), e1, show 39 * q + k - 39 * q = k by omega]
    · rw [if_neg e1, hc]
      by_cases e2 : 39 * q ≤ j ∧ j < 39 * q + k
      · rw [if_pos e2, if_pos (by omega)]
      · rw [if_neg e2, if_neg (by omega)]
theorem m192_yes {q : Nat} (hq : q < 2) (hm : M 11 (0, 0) 19 = jn q) : jE (d + 20) 192 0 (lm [] ++ [none]) [] (n, ([], M)) v σ' ↔ v = some (.inl (jn (q + 1))) ∧ σ' = (n, ([], kpR M q)) := by
  have e1 : ¬ jn q = 2 := fun z => by have := jn_inj (a := q) (b := 2) (by omega) (by omega) z; omega
  simp only [lm, List.map_nil, jcall_eq, Option.toList_some, Option.toList_none, List.cons_append, List.nil_append, s192_0, s192_1, s192_4, s192_5, s192_11, s192_12, hm, e1, not_false_eq_true, if_true]
  have e := m192_loop (d := d + 20) (n := n) (v := v) (σ' := σ') (N := M) hq hm (c0 := M 12 (58, 0)) 39 0 (M 12 (58, 0)) (by omega) (fun j => by rw [if_neg (by omega)])
  rw [mC_self] at e
  exact e
/-- back -/
theorem m193_no (hm : M 11 (0, 0) 19 = 0) : jE (d + 20) 193 0 (lm [] ++ [none]) [] (n, ([], M)) v σ' ↔ v = some (.inl (-2)) ∧ σ' = (n, ([], M)) := by
  simp only [lm, List.map_nil, jcall_eq, Option.toList_some, Option.toList_none, List.cons_append, List.nil_append, s193_0, s193_1, s193_4, s193_7, s193_9, hm, not_true_eq_false, if_false]
theorem m193_loop {q : Nat} (hq : q < 2) (hm : N 11 (0, 0) 19 = jn q) {c0 : Nat → Int32} : ∀ (m k : Nat) (c : Nat → Int32), k + m = 39 → (∀ j, c j = if j < k then N 12 (58, 0) (39 * q + j) else c0 j) → (jE d 193 22 [some (.inr (.inr (some (11, (0, 0))))), some (.inl (jn k))] [] (n, ([], mC N (55, 0) c)) v σ' ↔ v = some (.inl (jn q)) ∧ σ' = (n, ([], jUp (mC N (55, 0) (fun j => if j < 39 then N 12 (58, 0) (39 * q + j) else c0 j)) 11 (0, 0) 17 0))) := by
  intro m
  induction m with
  | zero =>
    intro k c hk hc
    rw [s193_22, s193_23, s193_25, if_pos (show (39 : Int32) ≤ jn k from (jn_le (k := 39) (by omega) (by omega)).mpr (by omega))]
    simp only [s193_54, s193_55, s193_56, s193_59, s193_60, s193_63]
    rw [jUp_s (by decide), mC_k (by decide), hm]
    rw [show c = fun j => if j < 39 then N 12 (58, 0) (39 * q + j) else c0 j from funext fun j => by rw [hc, show k = 39 by omega]]
  | succ m ih =>
    intro k c hk hc
    rw [s193_22, s193_23, s193_25, if_neg (show ¬ (39 : Int32) ≤ jn k from fun z => absurd ((jn_le (k := 39) (by omega) (by omega)).mp z) (by omega))]
    simp (disch := omega) only [s193_28, s193_29, s193_32, s193_33, s193_34, s193_37, s193_39, s193_40, s193_43, s193_44, s193_45, s193_46, s193_47, s193_48, jm_55, jm_58, mC_k (show (11 : Nat) ≠ 12 by decide), hm, mC_ne (show ((58, 0) : jA) ≠ (55, 0) by decide), mC_up, mC_at, mC_mC, jnM39, jn_add, jiz, jcl]
    rw [s193_51, jn_1]
    refine ih (k + 1) _ (by omega) (fun j => ?_)
    unfold upd
    by_cases e1 : j = k
    · rw [if_pos e1, if_pos (by omega), e1]
    · rw [if_neg e1, hc]
      by_cases e2 : j < k
      · rw [if_pos e2, if_pos (by omega)]
      · rw [if_neg e2, if_neg (by omega)]
theorem m193_yes {q : Nat} (hq : q < 2) (hm : M 11 (0, 0) 19 = jn (q + 1)) : jE (d + 20) 193 0 (lm [] ++ [none]) [] (n, ([], M)) v σ' ↔ v = some (.inl (jn q)) ∧ σ' = (n, ([], bkR M q)) := by
  have e1 : ¬ jn (q + 1) = 0 := fun z => by have := jn_inj (a := q + 1) (b := 0) (by omega) (by omega) z; omega
  simp only [lm, List.map_nil, jcall_eq, Option.toList_some, Option.toList_none, List.cons_append, List.nil_append, s193_0, s193_1, s193_4, s193_10, s193_11, s193_12, s193_15, s193_16, s193_17, s193_20, s193_21, hm, e1, not_false_eq_true, if_true, jn_sub1]
  have e := m193_loop (d := d + 20) (n := n) (v := v) (σ' := σ') (N := jUp M 11 (0, 0) 19 (jn q)) hq (jUp_at _ _ _ _ _) (c0 := M 12 (55, 0)) 39 0 (M 12 (55, 0)) (by omega) (fun j => by rw [if_neg (by omega)])
  rw [jUp_k (show (12 : Nat) ≠ 11 by decide)] at e
  have e2 : mC (jUp M 11 (0, 0) 19 (jn q)) (55, 0) (M 12 (55, 0)) = jUp M 11 (0, 0) 19 (jn q) := by rw [mC_jUp (by decide), mC_self]
  rw [e2] at e
  exact e
end JRM
