/-! the reference: the next line, seating -/
section JRW
variable {d n K a b l f : Nat} {v : Option jV} {σ' : jS} {M M' : jM} {x y z : Int32} {h g nv H : jH} {c : Nat → Int32}
theorem r179_low (w : hOk K a b l h) (hs : M 12 (46, 0) 0 = jn b) (hc : ∀ s, s < b → c (18 + s) = h 9 s) : ∀ (L : Nat), L < b → (jE d 179 9 [some (.inr (.inr (some (11, (0, 0))))), some (.inl (jn L - 1)), none, none, none, none] [] (n, ([], mC M (60, 0) c)) v σ' ↔ jE d 179 42 [some (.inr (.inr (some (11, (0, 0))))), some (.inl (jn (nlLow (h 9) L) - 1)), none, none, none, none] [] (n, ([], mC M (60, 0) c)) v σ') := by
  have w1 := w.1
  intro L
  induction L with
  | zero =>
    intro hL
    rw [s179_9, s179_10, if_pos (by decide)]
    rfl
  | succ L ih =>
    intro hL
    rw [jn_sub1, nlLow, s179_9, s179_10, if_neg (jn_npos (by omega))]
    simp (disch := omega) only [s179_13, s179_14, s179_17, s179_19, s179_20, s179_21, s179_22, s179_23, s179_26, s179_28, s179_29, s179_30, s179_31, s179_32, s179_33, s179_36, jm_60, mC_at, jnA18, jn_1, jiz, jcl, hc L (by omega), show 18 + L + 1 = 18 + (L + 1) from rfl, hc (L + 1) (by omega)]
    rw [s179_39]
    by_cases h1 : h 9 (L + 1) < h 9 L
    · rw [if_neg (Int32.not_le.mpr h1), if_pos h1, ← ih (by omega)]
      rw [show jn L + (-1) = jn L - 1 from (Int32.sub_eq_add_neg _ _).symm]
    · rw [if_pos (Int32.not_lt.mp h1), if_neg h1, jn_sub1]
theorem r179_high (w : hOk K a b l h) (hc : ∀ s, s < b → c (18 + s) = h 9 s) {lo : Nat} (hlo : lo + 1 < b) (hr : ¬ h 9 (lo + 1) < h 9 lo) : ∀ (t : Nat), t < b → lo < t → (jE d 179 57 [some (.inr (.inr (some (11, (0, 0))))), some (.inl (jn lo)), some (.inl (jn t)), none, none, none] [] (n, ([], mC M (60, 0) c)) v σ' ↔ jE d 179 84 [some (.inr (.inr (some (11, (0, 0))))), some (.inl (jn lo)), some (.inl (jn (nlHigh (h 9) lo t))), none, none, none] [] (n, ([], mC M (60, 0) c)) v σ') := by
  have w1 := w.1
  intro t
  induction t with
  | zero => intro _ h; omega
  | succ t ih =>
    intro ht hlt
    rw [nlHigh]
    simp (disch := omega) only [s179_57, s179_58, s179_61, s179_63, s179_64, s179_65, s179_66, s179_67, s179_70, s179_72, s179_73, s179_74, s179_75, s179_78, jm_60, mC_at, jnA18, jiz, jcl, hc (t + 1) ht, hc lo (by omega)]
    rw [s179_81]
    by_cases h1 : h 9 (t + 1) < h 9 lo
    · have hlt2 : lo < t := by
        by_cases e : lo < t
        · exact e
        · have : lo = t := by omega
          subst this
          exact absurd h1 hr
      rw [if_neg (Int32.not_le.mpr h1), if_pos ⟨hlt, h1⟩, show jn (t + 1) + (-1) = jn t by rw [← jn_sub1 t]; exact (Int32.sub_eq_add_neg _ _).symm, ← ih (by omega) hlt2]
    · rw [if_pos (Int32.not_lt.mp h1), if_neg (fun z => h1 z.2)]
theorem nset_self (h : jH) (f : Nat) : nset h f (h f) = h := by
  funext r
  unfold nset
  by_cases e : r = f
  · rw [if_pos e, e]
  · rw [if_neg e]
theorem rD_swp (hb : b ≤ 7) (hl : l ≤ 7) {p q : Nat} (hp : p < b) (hq : q < b) (r : rD a b l c h) : rD a b l (upd (upd c (18 + p) (h 9 q)) (18 + q) (h 9 p)) (nset h 9 (swp (h 9) p q)) := by
  have k1 := rD_row (x := h 9 q) (r := 9) (o := 18) (k := p) hb hl r (by omega) hp
  have k2 := rD_row (x := h 9 p) (r := 9) (o := 18) (k := q) hb hl k1 (by omega) hq
  rw [nset_at, nset_nset] at k2
  exact k2
theorem r179_rev (hb : b ≤ 7) (hl : l ≤ 7) {a1 a2 : Option jV} : ∀ (f i j : Nat) (h : jH) (c : Nat → Int32) (a3 : Option jV), rD a b l c h → i ≤ 7 → j < b → j < i + 2 * f → ∃ c', rD a b l c' (nset h 9 (nlRev f i j (h 9))) ∧ ∀ (v : Option jV) (σ' : jS), jE d 179 137 [some (.inr (.inr (some (11, (0, 0))))), a1, a2, a3, some (.inl (jn i)), some (.inl (jn j))] [] (n, ([], mC M (60, 0) c)) v σ' ↔ v = some (.inl 1) ∧ σ' = (n, ([], mC M (60, 0) c')) := by
  intro f
  induction f with
  | zero =>
    intro i j h c a3 r hi hj hf
    refine ⟨c, by unfold nlRev; rw [nset_self]; exact r, fun v σ' => ?_⟩
    rw [s179_137, s179_139, s179_141, if_pos ((jn_le (by omega) (by omega)).mpr (by omega)), s179_195, s179_196]
    exact ⟨fun z => z.2, fun z => ⟨by simp, z⟩⟩
  | succ f ih =>
    intro i j h c a3 r hi hj hf
    rw [nlRev]
    by_cases h1 : i < j
    · rw [if_pos h1]
      have k := rD_swp hb hl (show i < b by omega) hj r
      obtain ⟨c', r', e⟩ := ih (i + 1) (j - 1) _ _ (some (.inl (h 9 i))) k (by omega) (by omega) (by omega)
      rw [nset_nset, nset_at] at r'
      refine ⟨c', r', fun v σ' => ?_⟩
      rw [s179_137, s179_139, s179_141, if_neg (fun z => absurd ((jn_le (by omega) (by omega)).mp z) (by omega))]
      have u1 : upd c (18 + i) (h 9 j) (18 + i) = h 9 j := if_pos rfl
      simp (disch := omega) only [s179_144, s179_145, s179_148, s179_150, s179_152, s179_153, s179_154, s179_155, s179_156, s179_159, s179_161, s179_163, s179_164, s179_165, s179_168, s179_170, s179_172, s179_173, s179_174, s179_175, s179_176, s179_179, s179_181, s179_183, s179_184, s179_185, s179_186, s179_189, jm_60, mC_at, mC_up, mC_mC, jnA18, jiz, jcl, (r.2.2.1 i (by omega)).2.1, (r.2.2.1 j hj).2.1]
      rw [s179_192, jn_1, show jn j + (-1) = jn (j - 1) by conv => lhs; rw [show j = j - 1 + 1 by omega, show (jn (j - 1 + 1) + (-1) : Int32) = jn (j - 1 + 1) - 1 from (Int32.sub_eq_add_neg _ _).symm, jn_sub1]]
      exact e v σ'
    · rw [if_neg h1, nset_self]
      refine ⟨c, r, fun v σ' => ?_⟩
      rw [s179_137, s179_139, s179_141, if_pos ((jn_le (by omega) (by omega)).mpr (by omega)), s179_195, s179_196]
      exact ⟨fun z => z.2, fun z => ⟨by simp, z⟩⟩
theorem nlLow_up : ∀ (L : Nat) (r : Nat → Int32), ¬ nlLow r L = 0 → ¬ r (nlLow r L) < r (nlLow r L - 1)
  | 0, _, h => absurd rfl h
  | L + 1, r, h => by
    rw [nlLow] at h ⊢
    by_cases e : r (L + 1) < r L
    · rw [if_pos e] at h ⊢; exact nlLow_up L r h
    · rw [if_neg e]; exact e
/-- nextRow -/
theorem r179 (w : rO K a b l 60 M h) : ∃ c', rD a b l c' (nset h 9 (nlNext b (h 9))) ∧ ∀ (v : Option jV) (σ' : jS), jE d 179 0 [some (.inr (.inr (some (11, (0, 0))))), none, none, none, none, none] [] (n, ([], M)) v σ' ↔ v = some (.inl (jb (¬ nlLow (h 9) (b - 1) = 0))) ∧ σ' = (n, ([], mC M (60, 0) c')) := by
  have w1 := w.1.1
  have e1 : jn b - 2 = jn (b - 1) - 1 := by
    conv => lhs; rw [show b = b - 1 + 1 by omega, ← jn_1]
    rw [Int32.sub_eq_add_neg, Int32.sub_eq_add_neg, Int32.add_assoc]
    rfl
  have e2 : jn b - 1 = jn (b - 1) := jn_sub (a := b) (b := 1) (by omega)
  have hc : ∀ s, s < b → M 12 (60, 0) (18 + s) = h 9 s := fun s hs => (w.2.2.1.2.2.1 s hs).2.1
  have hl := nlLow_le (h 9) (b - 1)
  have low := fun (v : Option jV) (σ' : jS) => r179_low (d := d) (n := n) (v := v) (σ' := σ') (M := M) (c := M 12 (60, 0)) w.1 w.2.1.1.2 hc (b - 1) (by omega)
  rw [mC_self] at low
  have head : ∀ (v : Option jV) (σ' : jS), jE d 179 0 [some (.inr (.inr (some (11, (0, 0))))), none, none, none, none, none] [] (n, ([], M)) v σ' ↔ jE d 179 42 [some (.inr (.inr (some (11, (0, 0))))), some (.inl (jn (nlLow (h 9) (b - 1)) - 1)), none, none, none, none] [] (n, ([], M)) v σ' := by
    intro v σ'
    simp only [s179_0, s179_1, s179_4, s179_5, s179_6, s179_7, s179_8, jm_46, jk0, ji0 (show 0 < 2 by decide), w.2.1.1.2, e1]
    exact low v σ'
  unfold nlNext
  have hup := nlLow_up (b - 1) (h 9)
  generalize nlLow (h 9) (b - 1) = L at hl head hup ⊢
  cases L with
  | zero =>
    refine ⟨M 12 (60, 0), by rw [if_pos rfl, nset_self]; exact w.2.2.1, fun v σ' => ?_⟩
    rw [head, s179_42, s179_43, if_neg (by decide), s179_46, s179_47, jb_f (fun z => z rfl), mC_self]
    exact ⟨fun z => z.2, fun z => ⟨by simp, z⟩⟩
  | succ L =>
    have hup := hup (by omega)
    rw [Nat.add_sub_cancel] at hup
    have hh := nlHigh_le (h 9) L (b - 1)
    rw [if_neg (by omega), Nat.add_sub_cancel]
    have k := rD_swp (by omega) (by omega) (show L < b by omega) (show nlHigh (h 9) L (b - 1) < b by omega) w.2.2.1
    obtain ⟨c', r', e⟩ := r179_rev (d := d) (n := n) (M := M) (a1 := some (.inl (jn L))) (a2 := some (.inl (jn (nlHigh (h 9) L (b - 1))))) (by omega) (by omega) 7 (L + 1) (b - 1) _ _ (some (.inl (h 9 L))) k (by omega) (by omega) (by omega)
    rw [nset_nset, nset_at] at r'
    refine ⟨c', r', fun v σ' => ?_⟩
    have hg := r179_high (d := d) (n := n) (v := v) (σ' := σ') (M := M) (c := M 12 (60, 0)) w.1 hc (lo := L) (by omega) hup (b - 1) (by omega) (by omega)
    rw [mC_self] at hg
    rw [head, jn_sub1, s179_42, s179_43, if_pos (jn_pos (by omega)), jb_t (by omega)]
    simp only [s179_48, s179_49, s179_52, s179_53, s179_54, s179_55, s179_56, jm_46, jk0, ji0 (show 0 < 2 by decide), w.2.1.1.2, e2]
    rw [hg]
    simp (disch := omega) only [s179_84, s179_85, s179_88, s179_90, s179_91, s179_92, s179_93, s179_94, s179_95, s179_98, s179_100, s179_101, s179_102, s179_103, s179_106, s179_108, s179_109, s179_110, s179_111, s179_112, s179_113, s179_116, s179_118, s179_119, s179_120, s179_121, s179_122, s179_123, s179_124, s179_125, s179_127, s179_128, s179_131, s179_132, s179_133, s179_134, s179_135, jm_46, jk0, ji0 (show 0 < 2 by decide), jm_60, mC_at, mC_up, mC_mC, mC_ne (show ((46, 0) : jA) ≠ (60, 0) by decide), jnA18, jn_1, jiz, jcl, hc L (by omega), hc (nlHigh (h 9) L (b - 1)) (by omega), w.2.1.1.2, e2]
    exact e v σ'
/-- seating: the line that is best so far -/
theorem m180_copy {a2 a3 a4 : Option jV} {N : jM} (hs : N 12 (46, 0) 0 = jn b) (hb : b ≤ 7) (hc : ∀ s, s < b → N 12 (60, 0) (18 + s) = h 9 s) : ∀ (m k : Nat) (bst : Nat → Int32), k + m = b → ∃ bst', (∀ i, i < b → bst' i = if i < k then bst i else h 9 i) ∧ ∀ (v : Option jV) (σ' : jS), jE d 180 76 [some (.inr (.inr (some (11, (0, 0))))), some (.inl x), a2, a3, a4, some (.inl (jn k))] [] (n, ([], mC N (66, 0) bst)) v σ' ↔ jE d 180 110 [some (.inr (.inr (some (11, (0, 0))))), some (.inl x), a2, a3, a4, some (.inl (jn b))] [] (n, ([], mC N (66, 0) bst')) v σ' := by
  intro m
  induction m with
  | zero =>
    intro k bst hk
    refine ⟨bst, fun i hi => by rw [if_pos (by omega)], fun v σ' => ?_⟩
    simp only [s180_76, s180_78, s180_79, s180_82, s180_83, s180_84, jm_46, jk0, ji0 (show 0 < 2 by decide), mC_ne (show ((46, 0) : jA) ≠ (66, 0) by decide), hs]
    rw [if_pos ((jn_le (by omega) (by omega)).mpr (by omega)), show k = b by omega]
  | succ m ih =>
    intro k bst hk
    obtain ⟨bst', e1, e2⟩ := ih (k + 1) (upd bst k (h 9 k)) (by omega)
    refine ⟨bst', fun i hi => ?_, fun v σ' => ?_⟩
    · rw [e1 i hi]
      unfold upd
      by_cases c : i = k
      · rw [if_pos (by omega), if_pos c, if_neg (by omega), c]
      · by_cases c2 : i < k
        · rw [if_pos (by omega), if_neg c, if_pos c2]
        · rw [if_neg (by omega), if_neg c2]
    · simp only [s180_76, s180_78, s180_79, s180_82, s180_83, s180_84, jm_46, jk0, ji0 (show 0 < 2 by decide), mC_ne (show ((46, 0) : jA) ≠ (66, 0) by decide), hs]
      rw [if_neg (fun z => absurd ((jn_le (by omega) (by omega)).mp z) (by omega))]
      simp (disch := omega) only [s180_87, s180_88, s180_91, s180_93, s180_94, s180_97, s180_99, s180_101, s180_102, s180_103, s180_104, jm_60, jm_66, mC_ne (show ((60, 0) : jA) ≠ (66, 0) by decide), mC_at, mC_up, mC_mC, jnA18, jiz, jcl, hc k (by omega)]
      rw [s180_107, jn_1]
      exact e2 v σ'
theorem m180_loop (w0 : rO K a b l 55 M H) (hK : K ≤ 1000000) (hy : M 11 (0, 0) 25 = 0) : ∀ (f : Nat) (h : jH) (M' : jM) (o : (Nat → Int32) × Int32) (a4 a5 : Option jV), Term b f (h 9) → iEq M M' → rO K a b l 60 M' h → (∀ r, r ≠ 9 → h r = H r) → (∀ i, i < b → M' 12 (66, 0) i = o.1 i) → ∃ M2 a4' a5', iEq M M2 ∧ (∀ i, i < b → M2 12 (66, 0) i = (mdRun b f h o).1 i) ∧ ∀ (v : Option jV) (σ' : jS), jE (d + 20) 180 50 [some (.inr (.inr (some (11, (0, 0))))), some (.inl x), some (.inl o.2), some (.inl 1), a4, a5] [] (n, ([], M')) v σ' ↔ jE (d + 20) 180 118 [some (.inr (.inr (some (11, (0, 0))))), some (.inl x), some (.inl (mdRun b f h o).2), some (.inl 0), a4', a5'] [] (n, ([], M2)) v σ' := by
  have w1 := w0.1.1
  intro f
  induction f with
  | zero => intro h M' o a4 a5 t; exact absurd t (fun z => z)
  | succ f ih =>
    intro h M' o a4 a5 t e w eh hb
    have hy' := hy_iEq e hy
    have ec := (same_cnt (y := 0) w.1 hK).1
    -- the line is looked at
    have look : ∃ M1 a5', iEq M M1 ∧ rO K a b l 60 M1 h ∧ (∀ i, i < b → M1 12 (66, 0) i = (tlStep h o).1 i) ∧ ∀ (v : Option jV) (σ' : jS), jE (d + 20) 180 50 [some (.inr (.inr (some (11, (0, 0))))), some (.inl x), some (.inl o.2), some (.inl 1), a4, a5] [] (n, ([], M')) v σ' ↔ jE (d + 20) 180 110 [some (.inr (.inr (some (11, (0, 0))))), some (.inl x), some (.inl (tlStep h o).2), some (.inl 1), some (.inl (h 10 11 - nUnfold h 0 5 0)), a5'] [] (n, ([], M1)) v σ' := by
      have hs : sG M' (mGo h b l 0) 12 (46, 0) 0 = jn b := by rw [sG_r _ _ (by decide)]; exact w.2.1.1.2
      have hc : ∀ s, s < b → sG M' (mGo h b l 0) 12 (60, 0) (18 + s) = h 9 s := fun s hs => by rw [sG_r _ _ (by decide)]; exact (w.2.2.1.2.2.1 s hs).2.1
      by_cases c : o.2 < h 10 11 - nUnfold h 0 5 0
      · obtain ⟨bst', e1, e2⟩ := m180_copy (d := d + 20) (n := n) (x := x) (a2 := some (.inl (h 10 11 - nUnfold h 0 5 0))) (a3 := some (.inl 1)) (a4 := some (.inl (h 10 11 - nUnfold h 0 5 0))) hs (by omega) hc b 0 (sG M' (mGo h b l 0) 12 (66, 0)) (by omega)
        rw [mC_self] at e2
        have et : tlStep h o = (h 9, h 10 11 - nUnfold h 0 5 0) := if_pos c
        refine ⟨mC (sG M' (mGo h b l 0)) (66, 0) bst', some (.inl (jn b)), iEq_tr e (iEq_tr iEq_sG iEq_66), ?_, fun i hi => ?_, fun v σ' => ?_⟩
        · have w2 := rO_sG (mGo h b l 0) w
          refine ⟨w2.1, ?_, ?_, w2.2.2.2⟩
          · have := w2.2.1
            unfold rS at this ⊢
            rw [mC_ne (by decide), mC_ne (by decide), mC_ne (by decide), mC_ne (by decide), mC_ne (by decide), mC_ne (by decide), mC_ne (by decide)]
            exact this
          · rw [mC_ne (by decide)]
            exact w2.2.2.1
        · rw [mC_at, et, e1 i hi, if_neg (by omega)]
        · rw [et]
          simp only [s180_50, s180_51, s180_54, s180_55, s180_56, s180_59, s180_62, s180_64, s180_66, s180_67, s180_70, s180_72, s180_73, s180_74, r154 w hy', ec, jcall_eq, Option.toList_some, Option.toList_none, List.cons_append, List.nil_append]
          rw [if_neg (by decide), if_neg (Int32.not_le.mpr c)]
          exact e2 v σ'
      · have et : tlStep h o = o := if_neg c
        refine ⟨sG M' (mGo h b l 0), a5, iEq_tr e iEq_sG, rO_sG _ w, fun i hi => ?_, fun v σ' => ?_⟩
        · rw [sG_r _ _ (by decide), et]; exact hb i hi
        · rw [et]
          simp only [s180_50, s180_51, s180_54, s180_55, s180_56, s180_59, s180_62, s180_64, s180_66, s180_67, r154 w hy', ec, jcall_eq, Option.toList_some, Option.toList_none, List.cons_append, List.nil_append]
          rw [if_neg (by decide), if_pos (Int32.not_lt.mp c)]
    obtain ⟨M1, a5', i1, wl, b1, el⟩ := look
    obtain ⟨c', r', en⟩ := r179 (d := d + 19) (n := n) wl
    have hdr : mdRun b (f + 1) h o = if nlLow (h 9) (b - 1) = 0 then tlStep h o else mdRun b f (nset h 9 (nlNext b (h 9))) (tlStep h o) := rfl
    have b2 : ∀ i, i < b → mC M1 (60, 0) c' 12 (66, 0) i = (tlStep h o).1 i := fun i hi => by rw [mC_ne (by decide)]; exact b1 i hi
    by_cases c : nlLow (h 9) (b - 1) = 0
    · rw [if_pos c] at hdr
      refine ⟨mC M1 (60, 0) c', some (.inl (h 10 11 - nUnfold h 0 5 0)), a5', iEq_tr i1 iEq_60, by rw [hdr]; exact b2, fun v σ' => ?_⟩
      rw [el, hdr]
      simp only [s180_110, s180_111, s180_114, en, jcall_eq, Option.toList_some, Option.toList_none, List.cons_append, List.nil_append]
      rw [s180_115, jb_f (fun z => z c), s180_50, s180_51, if_pos rfl]
    · rw [if_neg c] at hdr
      have wn : rO K a b l 60 (mC M1 (60, 0) c') (nset h 9 (nlNext b (h 9))) := rO_mC (Or.inr rfl) (hOk_next wl.1) (rS_rows wl.2.1 (nset_ne (by decide)) (nset_ne (by decide)) (nset_ne (by decide)) (nset_ne (by decide)) (nset_ne (by decide))) r'
      obtain ⟨M2, a4', a5'', i2, b3, e3⟩ := ih (nset h 9 (nlNext b (h 9))) (mC M1 (60, 0) c') (tlStep h o) (some (.inl (h 10 11 - nUnfold h 0 5 0))) a5' (by rw [nset_at]; exact t.resolve_left c) (iEq_tr i1 iEq_60) wn (fun r hr => by rw [nset_ne hr]; exact eh r hr) b2
      refine ⟨M2, a4', a5'', i2, by rw [hdr]; exact b3, fun v σ' => ?_⟩
      rw [el, hdr]
      simp only [s180_110, s180_111, s180_114, en, jcall_eq, Option.toList_some, Option.toList_none, List.cons_append, List.nil_append]
      rw [s180_115, jb_t c]
      exact e3 v σ'
theorem m180_init {N : jM} : ∀ (m k : Nat) (c : Nat → Int32), k + m = 7 → (jE d 180 24 [some (.inr (.inr (some (11, (0, 0))))), some (.inl x), some (.inl (jn k)), none, none, none] [] (n, ([], mC N (60, 0) c)) v σ' ↔ jE d 180 46 [some (.inr (.inr (some (11, (0, 0))))), some (.inl x), some (.inl (jn 7)), none, none, none] [] (n, ([], mC N (60, 0) (fun j => if 18 + k ≤ j ∧ j < 25 then jn (j - 18) else c j))) v σ') := by
  intro m
  induction m with
  | zero =>
    intro k c hk
    rw [s180_24, s180_25, s180_27, if_pos (show (7 : Int32) ≤ jn k from (jn_le (k := 7) (by omega) (by omega)).mpr (by omega)), show k = 7 by omega]
    rw [show (fun j => if 18 + 7 ≤ j ∧ j < 25 then jn (j - 18) else c j) = c from funext fun j => if_neg (by omega)]
  | succ m ih =>
    intro k c hk
    rw [s180_24, s180_25, s180_27, if_neg (show ¬ (7 : Int32) ≤ jn k from fun z => absurd ((jn_le (k := 7) (by omega) (by omega)).mp z) (by omega))]
    simp (disch := omega) only [s180_30, s180_31, s180_34, s180_36, s180_37, s180_38, s180_39, s180_40, jm_60, mC_at, mC_up, mC_mC, jnA18, jiz, jcl]
    rw [s180_43, jn_1, ih (k + 1) _ (by omega)]
    rw [show (fun j => if 18 + (k + 1) ≤ j ∧ j < 25 then jn (j - 18) else upd c (18 + k) (jn k) j) = (fun j => if 18 + k ≤ j ∧ j < 25 then jn (j - 18) else c j) from funext fun j => by
      unfold upd
      by_cases e : j = 18 + k
      · rw [if_neg (by omega), if_pos e, if_pos (by omega), e, show 18 + k - 18 = k by omega]
      · by_cases e2 : 18 + k ≤ j ∧ j < 25
        · rw [if_pos (by omega), if_pos e2]
        · rw [if_neg (by omega), if_neg e, if_neg e2]]
/-- seating -/
theorem m180 (w : rO K a b l 55 M h) (hK : K ≤ 1000000) (hy : M 11 (0, 0) 25 = 0) (c0 : Nat → Int32) : ∃ M2, iEq M M2 ∧ jE (d + 20) 180 0 (lm [.inl x] ++ [none, none, none, none]) [] (n, ([], M)) (some (.inl (lwSeatg h c0 b x))) (n, ([], M2)) := by
  have w1 := w.1.1
  have e2 : jn b - 1 = jn (b - 1) := jn_sub (a := b) (b := 1) (by omega)
  unfold lwSeatg
  rw [w.1.2.1.2.1]
  by_cases h1 : -1 ≤ x ∧ x ≤ jn b - 1
  · have hk : x = -1 ∨ (0 ≤ x ∧ x ≤ jn b - 1) := by
      by_cases c : 0 ≤ x
      · exact Or.inr ⟨c, h1.2⟩
      · left
        have q1 := Int32.le_iff_toInt_le.mp h1.1
        have q2 := Int32.lt_iff_toInt_lt.mp (Int32.not_le.mp c)
        apply Int32.toInt_inj.mp
        rw [show (-1 : Int32).toInt = -1 from rfl] at q1 ⊢
        rw [show (0 : Int32).toInt = 0 from rfl] at q2
        omega
    have wl : rO K a b l 60 (mC M (60, 0) (fun j => if 18 + 0 ≤ j ∧ j < 25 then jn (j - 18) else (if j < 39 then M 12 (55, 0) j else M 12 (60, 0) j))) (hLine0 h) := by
      refine rO_mC (Or.inr rfl) (hOk_line0 w.1) (rS_rows w.2.1 (nset_ne (by decide)) (nset_ne (by decide)) (nset_ne (by decide)) (nset_ne (by decide)) (nset_ne (by decide))) ?_
      have r := rD_take (c' := M 12 (60, 0)) (show a ≤ 7 by omega) (show b ≤ 7 by omega) (show l ≤ 7 by omega) w.2.2.1
      unfold hLine0
      refine ⟨fun i hi => ?_, ⟨?_, ?_, ?_, ?_⟩, fun s hs => ⟨?_, ?_, ?_⟩, fun s hs => ?_⟩
      · rw [nset_ne (by decide)]; simp only []; rw [if_neg (by omega)]; exact r.1 i hi
      · rw [nset_ne (by decide)]; simp only []; rw [if_neg (by omega)]; exact r.2.1.1
      · rw [nset_ne (by decide)]; simp only []; rw [if_neg (by omega)]; exact r.2.1.2.1
      · rw [nset_ne (by decide)]; simp only []; rw [if_neg (by omega)]; exact r.2.1.2.2.1
      · rw [nset_ne (by decide)]; simp only []; rw [if_neg (by omega)]; exact r.2.1.2.2.2
      · rw [nset_ne (by decide)]; simp only []; rw [if_neg (by omega)]; exact (r.2.2.1 s hs).1
      · rw [nset_at]; simp only []; rw [if_pos (by omega), show 18 + s - 18 = s by omega]
      · rw [nset_ne (by decide)]; simp only []; rw [if_neg (by omega)]; exact (r.2.2.1 s hs).2.2
      · rw [nset_ne (by decide)]; simp only []; rw [if_neg (by omega)]; exact r.2.2.2 s hs
    obtain ⟨M2, a4', a5', i2, b2, e⟩ := m180_loop (d := d) (n := n) (x := x) w hK hy 5040 (hLine0 h) _ (M 12 (66, 0), -1) none none (by unfold hLine0; rw [nset_at]; exact term_all (by omega)) iEq_60 wl (fun r hr => nset_ne hr) (fun i _ => by rw [mC_ne (by decide)])
    obtain ⟨lf1, lf2⟩ := lf_md w.1 hK c0 (M 12 (66, 0))
    refine ⟨M2, i2, jE_of (fun v σ' => ?_)⟩
    simp only [lm, List.map_cons, List.map_nil, s180_0, s180_1, s180_2, s180_3, s180_6, s180_7, s180_8, s180_9, s180_10, s180_13, s180_18, s180_19, s180_22, s180_23, r123, r142, jcall_eq, Option.toList_some, Option.toList_none, List.cons_append, List.nil_append, jm_46, jk0, ji0 (show 0 < 2 by decide), w.2.1.1.2, jb_0, Classical.not_not, jifN, if_pos h1]
    refine (m180_init 7 0 _ (by omega)).trans ?_
    rw [s180_46, s180_47, s180_48, s180_49]
    refine (e v σ').trans ?_
    rw [lf1]
    simp only [s180_118, s180_119, s180_120, s180_123, s180_124, s180_127, s180_128, s180_131, s180_132, s180_133, jm_66, jifN]
    by_cases c1 : x = -1
    · rw [if_pos c1, if_pos c1]
    · rw [if_neg c1, if_neg c1]
      have c2 := hk.resolve_left c1
      obtain ⟨s, hs, rfl⟩ := (lw_seat w.1).mp (by rw [w.1.2.1.2.1]; exact c2)
      rw [if_pos c2, jn_clamp (by omega), lf2 s hs, b2 s hs]
      exact ⟨fun z => z.2, fun z => ⟨⟨jn_pos (by omega), by omega⟩, z⟩⟩
  · refine ⟨M, iEq_rfl M, jE_of (fun v σ' => ?_)⟩
    have c1 : ¬ x = -1 := fun z => h1 (by
      rw [z, e2]
      exact ⟨Int32.le_refl _, Int32.le_of_lt (Int32.lt_of_lt_of_le (show (-1 : Int32) < 0 by decide) (jn_pos (by omega)))⟩)
    have c2 : ¬ (0 ≤ x ∧ x ≤ jn b - 1) := fun z => h1 ⟨Int32.le_trans (by decide) z.1, z.2⟩
    rw [if_neg c1, if_neg c2]
    simp only [lm, List.map_cons, List.map_nil, s180_0, s180_1, s180_2, s180_3, s180_6, s180_7, s180_8, s180_9, s180_10, s180_13, s180_16, s180_17, r123, jcall_eq, Option.toList_some, Option.toList_none, List.cons_append, List.nil_append, jm_46, jk0, ji0 (show 0 < 2 by decide), w.2.1.1.2, jb_0, Classical.not_not, jifN, if_neg h1]
end JRW
