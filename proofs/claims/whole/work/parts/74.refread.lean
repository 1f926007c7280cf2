/-! the reference reads a bill, an item, all -/
def bN (N : jM) (l : Nat) (c : Int32) : jM := jUp (mC N (50, 0) (upd (N 12 (50, 0)) l c)) 11 (0, 0) 11 (jn (l + 1))
theorem bit7 : ∀ m : Fin 128, ∀ k : Fin 7, (m.1 ||| 1 <<< k.1 < 128) ∧ jn m.1 ||| ((1 : Int32) <<< (jn k.1 &&& 31)) = jn (m.1 ||| 1 <<< k.1) ∧ ∀ j : Fin 7, ((jn (m.1 ||| 1 <<< k.1) >>> (jn j.1 &&& 31)) &&& 1 = 1 ↔ (j.1 = k.1 ∨ (jn m.1 >>> (jn j.1 &&& 31)) &&& 1 = 1)) := by decide +kernel
def mB (m l : Nat) (h : jH) : Prop := m < 128 ∧ ∀ k, k < 7 → ((jn m >>> (jn k &&& 31)) &&& 1 = 1 ↔ ∃ i, i < l ∧ h 4 i = jn k)
section JRB
variable {d n L s s' a b l m : Nat} {v : Option jV} {σ' : jS} {M N : jM} {x y z z' lo hi e : Int32} {t : Nat → Int32} {h : jH} {a1 a2 : Option jV}
theorem r132_103 : jE d 132 103 [some (.inr (.inr (some (11, (0, 0))))), a1, a2] [] (n, ([], pM N s z)) v σ' ↔ v = none ∧ σ' = (n, ([], pM N s (zA z (¬ N 11 (0, 0) 11 = 0)))) := by
  simp only [s132_103, s132_104, s132_105, s132_108, s132_111, s132_112, s132_115, s132_118, s132_119, s132_122, s132_123, s132_126, pM_14, pM_s (show (11 : Nat) ≠ 13 ∧ (11 : Nat) ≠ 14 by decide), pM_p14]
  unfold zA
  by_cases h1 : z = 0
  · rw [if_neg (fun q => q h1)]
    by_cases h2 : N 11 (0, 0) 11 = 0
    · rw [if_neg (fun q => q h2), jb_t (show ¬ (z = 0 ∧ ¬ N 11 (0, 0) 11 = 0) from fun q => q.2 h2)]
      exact ⟨fun q => q.2, fun q => ⟨by simp, q⟩⟩
    · rw [if_pos h2, jb_f (fun q => q ⟨h1, h2⟩)]
      exact ⟨fun q => q.2, fun q => ⟨by simp, q⟩⟩
  · rw [if_pos h1, jb_t (show ¬ (z = 0 ∧ ¬ N 11 (0, 0) 11 = 0) from fun q => h1 q.1)]
    exact ⟨fun q => q.2, fun q => ⟨by simp, q⟩⟩
theorem r132_no (w : tH t L N) (hs : s ≤ 900) (h1 : ¬ (48 ≤ t s ∧ t s ≤ 57)) : jE (d + 2) 132 7 [some (.inr (.inr (some (11, (0, 0))))), some (.inl x), a2] [] (n, ([], pM N s z)) v σ' ↔ jE (d + 2) 132 103 [some (.inr (.inr (some (11, (0, 0))))), some (.inl x), a2] [] (n, ([], pM N s z)) v σ' := by
  simp only [s132_7, s132_8, s132_11, r127 w (show s ≤ 1000 by omega), jcall_eq, Option.toList_some, Option.toList_none, List.cons_append, List.nil_append, jb_0]
  rw [if_pos h1]
theorem r132_wr (w : tH t L N) (hs : s ≤ 900) (h2 : ¬ z = 0) : jE (d + 2) 132 7 [some (.inr (.inr (some (11, (0, 0))))), some (.inl x), a2] [] (n, ([], pM N s z)) v σ' ↔ jE (d + 2) 132 103 [some (.inr (.inr (some (11, (0, 0))))), some (.inl x), a2] [] (n, ([], pM N s z)) v σ' := by
  simp only [s132_7, s132_8, s132_11, s132_14, s132_15, s132_18, r127 w (show s ≤ 1000 by omega), jcall_eq, Option.toList_some, Option.toList_none, List.cons_append, List.nil_append, jb_0, pM_14]
  by_cases h1 : 48 ≤ t s ∧ t s ≤ 57
  · rw [if_neg (fun q => q h1), if_pos h2]
  · rw [if_pos h1]
theorem r132_bad (w : tH t L N) (hs : s ≤ 900) (h1 : 48 ≤ t s ∧ t s ≤ 57) (h42 : N 12 (42, 0) 1 = jn a) (h3 : jn a ≤ t s - 48 ∨ (x >>> ((t s - 48) &&& 31)) &&& 1 = 1) : jE (d + 2) 132 7 [some (.inr (.inr (some (11, (0, 0))))), some (.inl x), a2] [] (n, ([], pM N s 0)) v σ' ↔ jE (d + 2) 132 103 [some (.inr (.inr (some (11, (0, 0))))), some (.inl x), some (.inl (t s - 48))] [] (n, ([], pM N s 1)) v σ' := by
  have e : jE (d + 2) 132 7 [some (.inr (.inr (some (11, (0, 0))))), some (.inl x), a2] [] (n, ([], pM N s 0)) v σ' ↔ jE (d + 2) 132 100 [some (.inr (.inr (some (11, (0, 0))))), some (.inl x), some (.inl (t s - 48))] [] (n, ([], pM N s 1)) v σ' := by
    simp only [s132_7, s132_8, s132_11, s132_14, s132_15, s132_18, s132_21, s132_22, s132_25, s132_27, s132_28, s132_29, s132_30, s132_31, s132_32, s132_35, s132_36, s132_37, r127 w (show s ≤ 1000 by omega), r126 w (show s ≤ 1000 by omega), jcall_eq, Option.toList_some, Option.toList_none, List.cons_append, List.nil_append, jb_0, pM_14, pM_12, h42, jm_42, jk1, ji1 (show 1 < 2 by decide)]
    rw [if_neg (fun q => q h1), if_neg (fun q => q trivial)]
    by_cases h4 : jn a ≤ t s - 48
    · rw [if_pos h4]
      simp only [s132_49, s132_50, s132_54, s132_57, s132_58, s132_61, pM_p14, pM_14, or_true, true_and]
      rw [if_pos (show ¬ (1 : Int32) = 0 by decide)]
    · rw [if_neg h4]
      simp only [s132_40, s132_41, s132_42, s132_43, s132_44, s132_45, s132_46]
      rw [if_neg (fun q => q (h3.resolve_left h4))]
      simp only [s132_49, s132_50, s132_54, s132_57, s132_58, s132_61, pM_p14, pM_14, or_true, true_and]
      rw [if_pos (show ¬ (1 : Int32) = 0 by decide)]
  rw [e, s132_100]
  exact r132_wr w hs (by decide)
theorem r132_ok (w : tH t L N) (hs : s ≤ 900) (h1 : 48 ≤ t s ∧ t s ≤ 57) (h42 : N 12 (42, 0) 1 = jn a) (h11 : N 11 (0, 0) 11 = jn l) (hl : l < 7) (h3 : ¬ jn a ≤ t s - 48) (h4 : ¬ (x >>> ((t s - 48) &&& 31)) &&& 1 = 1) : jE (d + 2) 132 7 [some (.inr (.inr (some (11, (0, 0))))), some (.inl x), a2] [] (n, ([], pM N s 0)) v σ' ↔ jE (d + 2) 132 100 [some (.inr (.inr (some (11, (0, 0))))), some (.inl (x ||| 1 <<< ((t s - 48) &&& 31))), some (.inl (t s - 48))] [] (n, ([], pM (bN N l (t s - 48)) (s + 1) 0)) v σ' := by
  simp only [s132_7, s132_8, s132_11, s132_14, s132_15, s132_18, s132_21, s132_22, s132_25, s132_27, s132_28, s132_29, s132_30, s132_31, s132_32, s132_35, s132_36, s132_37, r127 w (show s ≤ 1000 by omega), r126 w (show s ≤ 1000 by omega), jcall_eq, Option.toList_some, Option.toList_none, List.cons_append, List.nil_append, jb_0, pM_14, pM_12, h42, jm_42, jk1, ji1 (show 1 < 2 by decide)]
  rw [if_neg (fun q => q h1), if_neg (fun q => q trivial), if_neg h3]
  simp only [s132_40, s132_41, s132_42, s132_43, s132_44, s132_45, s132_46]
  rw [if_pos h4]
  simp only [s132_53, s132_54, s132_57, s132_58, s132_61, pM_p14, pM_14, true_or, true_and]
  rw [if_neg (fun q => q trivial)]
  simp (disch := omega) only [s132_64, s132_65, s132_66, s132_67, s132_68, s132_69, s132_70, s132_71, s132_74, s132_75, s132_78, s132_79, s132_80, s132_81, s132_82, s132_85, s132_86, s132_87, s132_90, s132_91, s132_92, s132_95, s132_96, s132_97, pM_s (show (11 : Nat) ≠ 13 ∧ (11 : Nat) ≠ 14 by decide), h11, jm_50, jiz, jcl, mC_up, pM_12, pM_mC, mC_k (show (11 : Nat) ≠ 12 by decide), jn_1, pM_up (show (11 : Nat) ≠ 13 ∧ (11 : Nat) ≠ 14 by decide), pM_13, pM_p13]
  rfl
theorem hTd_billed (g : hTd a b l h) : hBilled h x ↔ ∃ p, p < l ∧ h 4 p = x := by
  have g1 := g.1
  have hB1 : hB h = l := by
    unfold hB
    rw [g.2.1.2.2.1]
    exact jn_clamp (by omega)
  unfold hBilled hOnBill
  rw [hB1]
  constructor
  · intro hx
    by_cases h2 : ∃ p, p < l ∧ h 4 p = x
    · exact h2
    · exact absurd (rfind_miss (by omega) l 0 (by omega) (fun i _ hi e => h2 ⟨i, by omega, e⟩)) hx
  · rintro ⟨p, hp, e⟩ z
    exact rfind_none (by omega) l 0 (by omega) z p (by omega) (by omega) e
theorem hTd_mount {k : Nat} (g : hTd a b l h) (hk : k < a) (hx : ¬ hBilled h (jn k)) : l < a ∧ hTd a b (l + 1) (hMount h (jn k) (hB h)) ∧ (∀ r, r ≠ 4 → r ≠ 10 → hMount h (jn k) (hB h) r = h r) ∧ (∀ i, hMount h (jn k) (hB h) 4 i = if i = l then jn k else h 4 i) ∧ hMount h (jn k) (hB h) 10 13 = h 10 13 := by
  have g1 := g.1
  have hB1 : hB h = l := by
    unfold hB
    rw [g.2.1.2.2.1]
    exact jn_clamp (by omega)
  rw [hB1]
  have hm : ∀ i, i < l → h 4 i ≠ jn k := fun i hi e => hx ((hTd_billed g).mpr ⟨i, hi, e⟩)
  have hr := cIn_lt g1.1 g.2.2.2.1 hk hm
  have er : ∀ i, rins (h 4) l l (jn k) i = if i = l then jn k else h 4 i := by
    intro i
    unfold rins
    by_cases h1 : i < l
    · rw [if_pos h1, if_neg (by omega)]
    · rw [if_neg h1]
      by_cases h2 : i = l
      · rw [if_pos h2, if_pos h2]
      · rw [if_neg h2, if_neg h2, if_neg (by omega)]
  have f : ∀ r, r ≠ 4 → r ≠ 10 → hMount h (jn k) l r = h r := by
    intro r h4 h10
    unfold hMount
    rw [hSc_f h10, nset_ne h4]
  have f4 : hMount h (jn k) l 4 = rins (h 4) l l (jn k) := by
    unfold hMount
    rw [hSc_f (by decide), nset_at, hB1]
  have f10 : ∀ i, i ≠ 12 → hMount h (jn k) l 10 i = h 10 i := by
    intro i hi
    unfold hMount
    rw [hSc_10' hi, nset_ne (by decide)]
  refine ⟨hr, ⟨⟨g1.1, g1.2.1, by omega⟩, ⟨?_, ?_, ?_, ?_, ?_⟩, ?_, ?_, ?_, ?_⟩, f, ?_, f10 13 (by decide)⟩
  · rw [f10 10 (by decide)]; exact g.2.1.1
  · rw [f10 11 (by decide)]; exact g.2.1.2.1
  · unfold hMount
    rw [hSc_10, hB1]
  · rw [f10 14 (by decide)]; exact g.2.1.2.2.2.1
  · rw [f10 15 (by decide)]; exact g.2.1.2.2.2.2
  · rw [f 3 (by decide) (by decide), f 8 (by decide) (by decide), f 9 (by decide) (by decide)]; exact g.2.2.1
  · rw [f4]; exact cIn_ins g.2.2.2.1 hk (Nat.le_refl l) hm
  · rw [f 0 (by decide) (by decide), f 1 (by decide) (by decide), f 2 (by decide) (by decide)]; exact g.2.2.2.2.1
  · rw [f 5 (by decide) (by decide), f 6 (by decide) (by decide), f 7 (by decide) (by decide)]; exact g.2.2.2.2.2
  · intro i
    rw [f4]
    exact er i
theorem iEq_bN {c : Int32} : iEq M (bN M l c) := iEq_tr (iEq_mC (fun _ => Or.inl (by unfold scr; simp))) (iEq_up (by unfold scr; simp))
theorem tH_bN {c : Int32} (w : tH t L M) : tH t L (bN M l c) := tH_up (tH_mC w) (by decide)
theorem dM_mount {k : Nat} (g : hTd a b l h) (q : dM a b l N h) (hk : k < a) (hx : ¬ hBilled h (jn k)) : dM a b (l + 1) (bN N l (jn k)) (hMount h (jn k) (hB h)) := by
  obtain ⟨_, _, f, f4, f13⟩ := hTd_mount g hk hx
  refine ⟨⟨?_, ?_, ?_, ?_⟩, fun i hi => ?_, fun i hi => ?_, fun i hi => ?_⟩
  · unfold bN; rw [jUp_k (by decide), mC_ne (by decide)]; exact q.1.1
  · unfold bN; rw [jUp_k (by decide), mC_ne (by decide)]; exact q.1.2.1
  · unfold bN; rw [jUp_at]
  · unfold bN; rw [jUp_s (by decide), mC_k (by decide), f13]; exact q.1.2.2.2
  · unfold bN; rw [jUp_k (by decide), mC_ne (by decide), mC_ne (by decide), mC_ne (by decide), f 0 (by decide) (by decide), f 1 (by decide) (by decide), f 2 (by decide) (by decide)]; exact q.2.1 i hi
  · unfold bN; rw [jUp_k (by decide), mC_ne (by decide), mC_ne (by decide), mC_ne (by decide), f 5 (by decide) (by decide), f 6 (by decide) (by decide), f 7 (by decide) (by decide)]; exact q.2.2.1 i hi
  · unfold bN
    rw [jUp_k (by decide), mC_at, f4]
    unfold upd
    by_cases e : i = l
    · rw [if_pos e, if_pos e]
    · rw [if_neg e, if_neg e]; exact q.2.2.2 i (by omega)
theorem itE_bl_loop (w : tH t L M) : ∀ (f s l m : Nat) (N : jM) (h : jH) (a2 : Option jV), l + f = 8 → s ≤ 800 + l → hTd a b l h → dM a b l N h → mB m l h → iEq M N → tH t L N → ∃ N' s' z', (iEq M N' ∧ tH t L N' ∧ s' ≤ s + f ∧ ((z' = 0 ∧ t s' = 59) ↔ ¬ (blRun t f s h).1 = 0) ∧ (¬ (blRun t f s h).1 = 0 → (blRun t f s h).2.1 = s' + 1 ∧ ∃ a b l, hTd a b l (blRun t f s h).2.2 ∧ dM a b l N' (blRun t f s h).2.2)) ∧ ∀ (v : Option jV) (σ' : jS), jE (d + 2) 132 7 [some (.inr (.inr (some (11, (0, 0))))), some (.inl (jn m)), a2] [] (n, ([], pM N s 0)) v σ' ↔ v = none ∧ σ' = (n, ([], pM N' s' z')) := by
  intro f
  induction f with
  | zero =>
    intro s l m N h a2 hf hs g
    have := g.1
    omega
  | succ f ih =>
    intro s l m N h a2 hf hs g q hm x1 x2
    have g1 := g.1
    by_cases h1 : t s = 59
    · have e : blRun t (f + 1) s h = (jb (0 < h 10 12), s + 1, h) := by rw [blRun, if_pos h1]
      rw [e]
      refine ⟨N, s, _, ⟨x1, x2, by omega, ?_, fun _ => ⟨rfl, a, b, l, g, q⟩⟩, fun v σ' => (r132_no x2 (by omega) (by rw [h1]; decide)).trans r132_103⟩
      rw [zA_0, q.1.2.2.1]
      show _ ↔ ¬ jb (0 < h 10 12) = 0
      rw [jb_0, g.2.1.2.2.1, Classical.not_not]
      constructor
      · intro z
        exact (jn_lt (k := 0) (by omega) (by omega)).mpr (Nat.pos_of_ne_zero (fun e => z.1.2 (by rw [e]; rfl)))
      · intro z
        have := (jn_lt (k := 0) (by omega) (by omega)).mp z
        exact ⟨⟨rfl, fun e => by have := jn_inj (a := l) (b := 0) (by omega) (by omega) e; omega⟩, h1⟩
    · by_cases h2 : 48 ≤ t s ∧ t s ≤ 57
      · obtain ⟨k, hk, e1, e2⟩ := fig_in h2
        have ef := (fig_yes h2).2
        rw [e1] at ef
        by_cases h3 : k < a ∧ ¬ hBilled h (jn k)
        · obtain ⟨hr, gm, _, f4, _⟩ := hTd_mount g h3.1 h3.2
          have hbit : ¬ (jn m >>> (jn k &&& 31)) &&& 1 = 1 := fun z => h3.2 ((hTd_billed g).mpr ((hm.2 k (by omega)).mp z))
          have b7 := bit7 ⟨m, hm.1⟩ ⟨k, by omega⟩
          have hm' : mB (m ||| 1 <<< k) (l + 1) (hMount h (jn k) (hB h)) := by
            refine ⟨b7.1, fun j hj => ?_⟩
            refine (b7.2.2 ⟨j, hj⟩).trans ?_
            show (j = k ∨ _) ↔ _
            rw [hm.2 j hj]
            constructor
            · rintro (z | ⟨i, hi, z⟩)
              · exact ⟨l, by omega, by rw [f4, if_pos rfl, z]⟩
              · exact ⟨i, by omega, by rw [f4, if_neg (by omega)]; exact z⟩
            · rintro ⟨i, hi, z⟩
              rw [f4] at z
              by_cases e : i = l
              · rw [if_pos e] at z
                exact Or.inl (jn_inj (by omega) (by omega) z.symm)
              · rw [if_neg e] at z
                exact Or.inr ⟨i, by omega, z⟩
          obtain ⟨N', s', z', ⟨y1, y2, y3, y4, y5⟩, y6⟩ := ih (s + 1) (l + 1) (m ||| 1 <<< k) (bN N l (jn k)) (hMount h (jn k) (hB h)) (some (.inl (jn k))) (by omega) (by omega) gm (dM_mount g q h3.1 h3.2) hm' (iEq_tr x1 iEq_bN) (tH_bN x2)
          have e : blRun t (f + 1) s h = blRun t f (s + 1) (hMount h (jn k) (hB h)) := by
            have e3 : jn k ≤ h 10 10 - 1 := by
              rw [g.2.1.1]
              obtain ⟨a', rfl⟩ : ∃ a', a = a' + 1 := ⟨a - 1, by omega⟩
              rw [jn_sub1]
              exact (jn_le (by omega) (by omega)).mpr (by omega)
            rw [blRun, if_neg h1, ef, if_pos ⟨⟨jn_pos (by omega), e3⟩, h3.2⟩]
          rw [e]
          refine ⟨N', s', z', ⟨y1, y2, by omega, y4, y5⟩, fun v σ' => ?_⟩
          rw [r132_ok x2 (by omega) h2 q.1.1 q.1.2.2.1 (by omega) (by rw [e1]; exact fun z => absurd ((jn_le (by omega) (by omega)).mp z) (by omega)) (by rw [e1]; exact hbit), s132_100, e1, b7.2.1]
          exact y6 v σ'
        · have e : blRun t (f + 1) s h = (0, s + 1, h) := by
            rw [blRun, if_neg h1, ef, if_neg]
            rintro ⟨⟨_, z⟩, z2⟩
            refine h3 ⟨?_, z2⟩
            rw [g.2.1.1] at z
            rcases Nat.eq_zero_or_pos a with ea | ea
            · rw [ea] at z
              exact absurd (Int32.le_trans (jn_pos (k := k) (by omega)) z) (by decide)
            · obtain ⟨a', rfl⟩ : ∃ a', a = a' + 1 := ⟨a - 1, by omega⟩
              rw [jn_sub1] at z
              have := (jn_le (by omega) (by omega)).mp z
              omega
          rw [e]
          refine ⟨N, s, zA 1 (¬ N 11 (0, 0) 11 = 0), ⟨x1, x2, by omega, ?_, fun z => absurd rfl z⟩, fun v σ' => (r132_bad x2 (by omega) h2 q.1.1 ?_).trans r132_103⟩
          · rw [zA_0]
            exact ⟨fun z => absurd z.1.1 (by decide), fun z => absurd rfl z⟩
          · rw [e1]
            by_cases e3 : k < a
            · right
              exact (hm.2 k (by omega)).mpr ((hTd_billed g).mp (Classical.not_not.mp (fun z => h3 ⟨e3, z⟩)))
            · left
              exact (jn_le (by omega) (by omega)).mpr (by omega)
      · have e : blRun t (f + 1) s h = (0, s + 1, h) := by
          rw [blRun, if_neg h1, if_neg]
          intro z
          exact absurd z.1.1 (Int32.not_le.mpr (fig_no h2))
        rw [e]
        refine ⟨N, s, _, ⟨x1, x2, by omega, ⟨fun z => absurd z.2 h1, fun z => absurd rfl z⟩, fun z => absurd rfl z⟩, fun v σ' => (r132_no x2 (by omega) h2).trans r132_103⟩
theorem itE_bl (w : tH t L M) (g : hTd a b l h) (q : dM a b l M h) (hs : s ≤ 800) : ∃ N s' z', itE t L M N s s' z' (blRd t s h) ∧ ∀ (v : Option jV) (σ' : jS), jE (d + 2) 132 0 [some (.inr (.inr (some (11, (0, 0))))), none, none] [] (n, ([], pM M s 0)) v σ' ↔ v = none ∧ σ' = (n, ([], pM N s' z')) := by
  have f : ∀ r, r ≠ 10 → hSc h 12 0 r = h r := fun r hr => hSc_f hr
  have f10 : ∀ i, i ≠ 12 → hSc h 12 0 10 i = h 10 i := fun i hi => hSc_10' hi
  have gm : hTd a b 0 (hSc h 12 0) := by
    refine ⟨⟨g.1.1, g.1.2.1, by omega⟩, ⟨?_, ?_, ?_, ?_, ?_⟩, ?_, ⟨fun i hi => absurd hi (by omega), fun i j hi => absurd hi (by omega)⟩, ?_, ?_⟩
    · rw [f10 10 (by decide)]; exact g.2.1.1
    · rw [f10 11 (by decide)]; exact g.2.1.2.1
    · rw [hSc_10]; rfl
    · rw [f10 14 (by decide)]; exact g.2.1.2.2.2.1
    · rw [f10 15 (by decide)]; exact g.2.1.2.2.2.2
    · rw [f 3 (by decide), f 8 (by decide), f 9 (by decide)]; exact g.2.2.1
    · rw [f 0 (by decide), f 1 (by decide), f 2 (by decide)]; exact g.2.2.2.2.1
    · rw [f 5 (by decide), f 6 (by decide), f 7 (by decide)]; exact g.2.2.2.2.2
  have qm : dM a b 0 (jUp M 11 (0, 0) 11 0) (hSc h 12 0) := by
    refine ⟨⟨?_, ?_, ?_, ?_⟩, fun i hi => ?_, fun i hi => ?_, fun i hi => absurd hi (by omega)⟩
    · rw [jUp_k (by decide)]; exact q.1.1
    · rw [jUp_k (by decide)]; exact q.1.2.1
    · rw [jUp_at]; rfl
    · rw [jUp_s (by decide), f10 13 (by decide)]; exact q.1.2.2.2
    · rw [jUp_k (by decide), f 0 (by decide), f 1 (by decide), f 2 (by decide)]; exact q.2.1 i hi
    · rw [jUp_k (by decide), f 5 (by decide), f 6 (by decide), f 7 (by decide)]; exact q.2.2.1 i hi
  have hm : mB 0 0 (hSc h 12 0) := by
    refine ⟨by omega, fun k hk => ?_⟩
    have e : ∀ k : Fin 7, ¬ (jn 0 >>> (jn k.1 &&& 31)) &&& 1 = 1 := by decide +kernel
    exact ⟨fun z => absurd z (e ⟨k, hk⟩), fun ⟨i, hi, _⟩ => absurd hi (by omega)⟩
  obtain ⟨N', s', z', ⟨y1, y2, y3, y4, y5⟩, y6⟩ := itE_bl_loop (d := d) (n := n) (M := M) w 8 s 0 0 (jUp M 11 (0, 0) 11 0) (hSc h 12 0) none (by omega) (by omega) gm qm hm (iEq_up (by unfold scr; simp)) (tH_up w (by decide))
  refine ⟨N', s', z', ⟨y1, y2, by omega, y4, y5⟩, fun v σ' => ?_⟩
  rw [s132_0, s132_1, s132_2, s132_3, s132_4, pM_up (by decide)]
  exact y6 v σ'
theorem itE_ti (w : tH t L M) (g : hTd a b l h) (q : dM a b l M h) : itE t L M (jUp M 11 (0, 0) 12 (nmW t s).1) s (nmW t s).2 (zA 0 (0 ≤ (nmW t s).1 ∧ (nmW t s).1 ≤ 99)) (tiRd t s h) := by
  have g1 := nmW_2 t s
  obtain ⟨k1, k2⟩ := nm_ok (t := t) (s := s) (lo := 0) (hi := 99) (e := 59) (by decide)
  have f : ∀ r, r ≠ 10 → hSc h 13 (nmW t s).1 r = h r := fun r hr => hSc_f hr
  have f10 : ∀ i, i ≠ 13 → hSc h 13 (nmW t s).1 10 i = h 10 i := fun i hi => hSc_10' hi
  refine ⟨iEq_up (by unfold scr; simp), tH_up w (by decide), by omega, ?_, ?_⟩
  · rw [zA_0]
    show _ ↔ ¬ jb (0 ≤ (nmr t s 59 0 99).1) = 0
    rw [jb_0, Classical.not_not, ← k1]
    exact ⟨fun z => ⟨z.1.2, z.2⟩, fun z => ⟨⟨rfl, z.1⟩, z.2⟩⟩
  · intro z
    have z2 : 0 ≤ (nmr t s 59 0 99).1 := by
      have z3 : ¬ jb (0 ≤ (nmr t s 59 0 99).1) = 0 := z
      rw [jb_0] at z3
      exact Classical.not_not.mp z3
    refine ⟨(k2 z2).2, a, b, l, ?_⟩
    show hTd a b l (hSc h 13 (nmr t s 59 0 99).1) ∧ dM a b l _ (hSc h 13 (nmr t s 59 0 99).1)
    rw [(k2 z2).1]
    refine ⟨⟨g.1, ⟨?_, ?_, ?_, ?_, ?_⟩, ?_, ?_, ?_, ?_⟩, ⟨⟨?_, ?_, ?_, ?_⟩, fun i hi => ?_, fun i hi => ?_, fun i hi => ?_⟩⟩
    · rw [f10 10 (by decide)]; exact g.2.1.1
    · rw [f10 11 (by decide)]; exact g.2.1.2.1
    · rw [f10 12 (by decide)]; exact g.2.1.2.2.1
    · rw [f10 14 (by decide)]; exact g.2.1.2.2.2.1
    · rw [f10 15 (by decide)]; exact g.2.1.2.2.2.2
    · rw [f 3 (by decide), f 8 (by decide), f 9 (by decide)]; exact g.2.2.1
    · rw [f 4 (by decide)]; exact g.2.2.2.1
    · rw [f 0 (by decide), f 1 (by decide), f 2 (by decide)]; exact g.2.2.2.2.1
    · rw [f 5 (by decide), f 6 (by decide), f 7 (by decide)]; exact g.2.2.2.2.2
    · rw [jUp_k (by decide)]; exact q.1.1
    · rw [jUp_k (by decide)]; exact q.1.2.1
    · rw [jUp_s (by decide)]; exact q.1.2.2.1
    · rw [jUp_at, hSc_10]
    · rw [jUp_k (by decide), f 0 (by decide), f 1 (by decide), f 2 (by decide)]; exact q.2.1 i hi
    · rw [jUp_k (by decide), f 5 (by decide), f 6 (by decide), f 7 (by decide)]; exact q.2.2.1 i hi
    · rw [jUp_k (by decide), f 4 (by decide)]; exact q.2.2.2 i hi
/-- how an item ends, its last letter looked at -/
def itF (t : Nat → Int32) (L : Nat) (M N : jM) (s s' : Nat) (z : Int32) (R : Int32 × Nat × jH) : Prop :=
  iEq M N ∧ tH t L N ∧ s' ≤ s + 20 ∧ (z = 0 ↔ ¬ R.1 = 0) ∧ (¬ R.1 = 0 → R.2.1 = s' ∧ ∃ a b l, hTd a b l R.2.2 ∧ dM a b l N R.2.2)
theorem itF_of {R : Int32 × Nat × jH} (hs : s ≤ 850) (e : itE t L M N (s + 1) s' z R) : itF t L M N s (s' + 1) (zA z (t s' = 59)) R ∧ ∀ (v : Option jV) (σ' : jS), jE (d + 4) 133 100 [some (.inr (.inr (some (11, (0, 0))))), some (.inl x)] [] (n, ([], pM N s' z)) v σ' ↔ v = none ∧ σ' = (n, ([], pM N (s' + 1) (zA z (t s' = 59)))) := by
  refine ⟨⟨e.1, e.2.1, by have := e.2.2.1; omega, zA_0.trans e.2.2.2.1, e.2.2.2.2⟩, fun v σ' => ?_⟩
  have := e.2.2.1
  simp only [s133_100, s133_101, s133_103, s133_106, r128 e.2.1 (show s' ≤ 1000 by omega), jcall_eq, Option.toList_some, Option.toList_none, List.cons_append, List.nil_append]
theorem r133 (w : tH t L M) (g : hTd a b l h) (q : dM a b l M h) (hs : s ≤ 700) : ∃ N s' z', itF t L M N s s' z' (itRd t s h) ∧ ∀ (v : Option jV) (σ' : jS), jE (d + 4) 133 0 [some (.inr (.inr (some (11, (0, 0))))), none] [] (n, ([], pM M s 0)) v σ' ↔ v = none ∧ σ' = (n, ([], pM N s' z')) := by
  have hd : ∀ (v : Option jV) (σ' : jS), jE (d + 4) 133 0 [some (.inr (.inr (some (11, (0, 0))))), none] [] (n, ([], pM M s 0)) v σ' ↔ jE (d + 4) 133 16 [some (.inr (.inr (some (11, (0, 0))))), some (.inl (t s))] [.inl (t s)] (n, ([], pM M (s + 1) 0)) v σ' := by
    intro v σ'
    simp only [s133_0, s133_1, s133_4, s133_5, s133_6, s133_7, s133_10, s133_11, s133_12, s133_15, r126 w (show s ≤ 1000 by omega), jcall_eq, Option.toList_some, Option.toList_none, List.cons_append, List.nil_append, pM_13, pM_p13, jn_1]
  unfold itRd
  by_cases e1 : (t s).toInt = 98
  · rw [if_pos e1]
    obtain ⟨N, s', z', e, y⟩ := itE_bl (d := d + 1) (n := n) w g q (s := s + 1) (by omega)
    obtain ⟨y1, y2⟩ := itF_of (d := d) (n := n) (x := t s) (by omega) e
    refine ⟨N, s' + 1, _, y1, fun v σ' => ?_⟩
    rw [hd, s133_16, if_pos e1]
    simp only [s133_74, s133_75, y, jcall_eq, Option.toList_some, Option.toList_none, List.cons_append, List.nil_append, s133_78]
    exact y2 v σ'
  · rw [if_neg e1]
    by_cases e2 : (t s).toInt = 103
    · rw [if_pos e2]
      have e := itE_ti (s := s + 1) w g q
      obtain ⟨y1, y2⟩ := itF_of (d := d) (n := n) (x := t s) (by omega) e
      refine ⟨_, _, _, y1, fun v σ' => ?_⟩
      rw [hd, s133_16, if_neg e1, if_pos e2]
      simp only [s133_81, s133_82, s133_83, s133_84, s133_86, s133_89, s133_92, r129 w (show s + 1 ≤ 990 by omega), jcall_eq, Option.toList_some, Option.toList_none, List.cons_append, List.nil_append, pM_up (show (12 : Nat) ≠ 13 ∧ (12 : Nat) ≠ 14 by decide)]
      exact y2 v σ'
    · rw [if_neg e2]
      by_cases e3 : (t s).toInt = 104
      · rw [if_pos e3]
        obtain ⟨N, s', z', e, y⟩ := itE_se (d := d) (n := n) w g q (s := s + 1) (by omega)
        obtain ⟨y1, y2⟩ := itF_of (d := d) (n := n) (x := t s) (by omega) e
        refine ⟨N, s' + 1, _, y1, fun v σ' => ?_⟩
        rw [hd, s133_16, if_neg e1, if_neg e2, if_pos e3]
        simp only [s133_67, s133_68, y, jcall_eq, Option.toList_some, Option.toList_none, List.cons_append, List.nil_append, s133_71]
        exact y2 v σ'
      · rw [if_neg e3]
        by_cases e4 : (t s).toInt = 115
        · rw [if_pos e4]
          obtain ⟨N, s', z', e, y⟩ := itE_sc (d := d) (n := n) w g q (s := s + 1) (by omega)
          obtain ⟨y1, y2⟩ := itF_of (d := d) (n := n) (x := t s) (by omega) e
          refine ⟨N, s' + 1, _, y1, fun v σ' => ?_⟩
          rw [hd, s133_16, if_neg e1, if_neg e2, if_neg e3, if_pos e4]
          simp only [s133_60, s133_61, y, jcall_eq, Option.toList_some, Option.toList_none, List.cons_append, List.nil_append, s133_64]
          exact y2 v σ'
        · rw [if_neg e4]
          have e : itE t L M M (s + 1) (s + 1) 1 ((0 : Int32), s + 1, h) := ⟨iEq_rfl M, w, by omega, ⟨fun z => absurd z.1 (by decide), fun z => absurd rfl z⟩, fun z => absurd rfl z⟩
          obtain ⟨y1, y2⟩ := itF_of (d := d) (n := n) (x := t s) (by omega) e
          refine ⟨_, _, _, y1, fun v σ' => ?_⟩
          rw [hd, s133_16, if_neg e1, if_neg e2, if_neg e3, if_neg e4]
          simp only [s133_95, s133_96, s133_97, pM_p14, or_true, true_and]
          exact y2 v σ'
/-- read -/
theorem r134_loop (w : tH t L M) : ∀ (f s : Nat) (N : jM) (h : jH) (a2 : Option jV), L ≤ s + f → s ≤ 220 → (∃ a b l, hTd a b l h ∧ dM a b l N h) → iEq M N → tH t L N → ∃ N', (iEq M N' ∧ (¬ (rdRun t L f s h).1 = -4 ∨ ∃ a b l, hTd a b l (rdRun t L f s h).2.2 ∧ dM a b l N' (rdRun t L f s h).2.2)) ∧ ∀ (v : Option jV) (σ' : jS), jE (d + 5) 134 35 [some (.inr (.inr (some (11, (0, 0))))), a2] [] (n, ([], pM N s 0)) v σ' ↔ v = some (.inl (rdRun t L f s h).1) ∧ σ' = (n, ([], N')) := by
  have hL := w.1
  have out : ∀ (s : Nat) (N : jM) (a2 : Option jV), tH t L N → ¬ s < L → s ≤ 220 → ∀ (v : Option jV) (σ' : jS), jE (d + 5) 134 35 [some (.inr (.inr (some (11, (0, 0))))), a2] [] (n, ([], pM N s 0)) v σ' ↔ v = some (.inl (-4)) ∧ σ' = (n, ([], pM N s 0)) := by
    intro s N a2 x h1 hs v σ'
    simp only [s134_35, s134_36, s134_39, s134_40, s134_43, pM_13, pM_s (show (1 : Nat) ≠ 13 ∧ (1 : Nat) ≠ 14 by decide), x.2.1]
    rw [if_pos ((jn_le (by omega) (by omega)).mpr (by omega)), s134_67, s134_69]
  have hp : ∀ (N : jM) (s : Nat) (z : Int32), iEq M N → iEq M (pM N s z) := fun N s z x => iEq_tr x (iEq_tr (iEq_up (by unfold scr; simp)) (iEq_up (by unfold scr; simp)))
  have hdp : ∀ (a b l : Nat) (N : jM) (h : jH) (s : Nat) (z : Int32), dM a b l N h → dM a b l (pM N s z) h := by
    intro a b l N h s z q
    unfold dM
    rw [pM_12, pM_s (by decide), pM_s (by decide)]
    exact q
  intro f
  induction f with
  | zero =>
    intro s N h a2 hs hs2 ⟨a, b, l, g, q⟩ x1 x2
    exact ⟨pM N s 0, ⟨hp _ _ _ x1, Or.inr ⟨a, b, l, g, hdp _ _ _ _ _ _ _ q⟩⟩, out s N a2 x2 (by omega) hs2⟩
  | succ f ih =>
    intro s N h a2 hs hs2 ⟨a, b, l, g, q⟩ x1 x2
    rw [rdRun]
    by_cases h1 : s < L
    · rw [if_pos h1]
      obtain ⟨N1, s1, z1, e, y⟩ := r133 (d := d) (n := n) x2 g q (s := s) (by omega)
      have hd : ∀ (v : Option jV) (σ' : jS), jE (d + 5) 134 35 [some (.inr (.inr (some (11, (0, 0))))), a2] [] (n, ([], pM N s 0)) v σ' ↔ if z1 = 0 then jE (d + 5) 134 64 [some (.inr (.inr (some (11, (0, 0))))), some (.inl (jn s))] [] (n, ([], pM N1 s1 z1)) v σ' else v = some (.inl (jn s)) ∧ σ' = (n, ([], pM N1 s1 z1)) := by
        intro v σ'
        simp only [s134_35, s134_36, s134_39, s134_40, s134_43, s134_46, s134_47, s134_50, s134_51, s134_52, s134_55, s134_56, s134_59, s134_62, s134_63, pM_13, pM_14, pM_s (show (1 : Nat) ≠ 13 ∧ (1 : Nat) ≠ 14 by decide), x2.2.1, y, jcall_eq, Option.toList_some, Option.toList_none, List.cons_append, List.nil_append]
        rw [if_neg (fun z => absurd ((jn_le (by omega) (by omega)).mp z) (by omega))]
      have e5 := e.2.2.1
      by_cases h2 : (itRd t s h).1 = 0
      · rw [if_pos h2]
        have hz : ¬ z1 = 0 := fun z => (e.2.2.2.1.mp z) h2
        refine ⟨pM N1 s1 z1, ⟨hp _ _ _ (iEq_tr x1 e.1), Or.inl (jn_ne4 (by omega))⟩, fun v σ' => ?_⟩
        rw [hd, if_neg hz]
      · rw [if_neg h2]
        have hz := e.2.2.2.1.mpr h2
        obtain ⟨e6, a', b', l', e7, e8⟩ := e.2.2.2.2 h2
        have e9 := (itRd_ten (t := t) (s := s) (h := h) ⟨a, g.1.1, g.2.1.1⟩).2.1
        rw [hz] at hd
        rw [e6] at e9 ⊢
        obtain ⟨N', y1, y2⟩ := ih s1 N1 (itRd t s h).2.2 (some (.inl (jn s))) (by omega) (by omega) ⟨a', b', l', e7, e8⟩ (iEq_tr x1 e.1) e.2.1
        refine ⟨N', y1, fun v σ' => ?_⟩
        rw [hd, if_pos rfl, s134_64]
        exact y2 v σ'
    · rw [if_neg h1]
      exact ⟨pM N s 0, ⟨hp _ _ _ x1, Or.inr ⟨a, b, l, g, hdp _ _ _ _ _ _ _ q⟩⟩, out s N a2 x2 h1 hs2⟩
theorem r134 (w : I5 L M) (H : jH) : ∃ N', (iEq M N' ∧ (¬ (rdRun (tx (M 12 (30, 0)) L) L 200 0 (hNew H)).1 = -4 ∨ ∃ a b l, hTd a b l (rdRun (tx (M 12 (30, 0)) L) L 200 0 (hNew H)).2.2 ∧ dM a b l N' (rdRun (tx (M 12 (30, 0)) L) L 200 0 (hNew H)).2.2)) ∧ ∀ (v : Option jV) (σ' : jS), jE (d + 5) 134 0 [some (.inr (.inr (some (11, (0, 0))))), none] [] (n, ([], M)) v σ' ↔ v = some (.inl (rdRun (tx (M 12 (30, 0)) L) L 200 0 (hNew H)).1) ∧ σ' = (n, ([], N')) := by
  have w5 := tH_5 w
  have hL := w.1
  have p1 : hTd 0 0 0 (hNew H) := ⟨by omega, ⟨rfl, rfl, rfl, rfl, rfl⟩, ⟨fun _ => rfl, fun _ => rfl, fun _ => rfl⟩, ⟨fun i hi => absurd hi (by omega), fun i j hi => absurd hi (by omega)⟩, ⟨fun i hi => absurd hi (by omega), fun i hi => absurd hi (by omega), fun i hi => absurd hi (by omega)⟩, ⟨fun i hi => absurd hi (by omega), fun i hi => absurd hi (by omega), fun i hi => absurd hi (by omega)⟩⟩
  have p2 : dM 0 0 0 (jUp (jUp (mC (mC M (42, 0) (upd (M 12 (42, 0)) 1 0)) (46, 0) (upd (M 12 (46, 0)) 1 0)) 11 (0, 0) 11 0) 11 (0, 0) 12 20) (hNew H) := by
    refine ⟨⟨?_, ?_, ?_, ?_⟩, fun i hi => absurd hi (by omega), fun i hi => absurd hi (by omega), fun i hi => absurd hi (by omega)⟩
    · rw [jUp_k (by decide), jUp_k (by decide), mC_ne (by decide), mC_at]; rfl
    · rw [jUp_k (by decide), jUp_k (by decide), mC_at]; rfl
    · rw [jUp_s (by decide), jUp_at]; rfl
    · rw [jUp_at]; rfl
  have e1 : ∀ (f : Nat) (c : Nat → Int32) (N : jM), f = 42 ∨ f = 46 → N 12 (f, 0) = c → iEq N (mC N (f, 0) (upd c 1 0)) := by
    intro f c N hf hc
    refine iEq_mC (fun i => ?_)
    by_cases h1 : i = 1
    · left; unfold scr; omega
    · right; rw [hc]; exact if_neg h1
  obtain ⟨N', y1, y2⟩ := r134_loop (d := d) (n := n) w5 200 0 (jUp (jUp (mC (mC M (42, 0) (upd (M 12 (42, 0)) 1 0)) (46, 0) (upd (M 12 (46, 0)) 1 0)) 11 (0, 0) 11 0) 11 (0, 0) 12 20) (hNew H) none (by omega) (by omega) ⟨0, 0, 0, p1, p2⟩ (iEq_tr (iEq_tr (iEq_tr (e1 42 _ M (by omega) rfl) (e1 46 _ _ (by omega) (mC_ne (by decide)))) (iEq_up (by unfold scr; simp))) (iEq_up (by unfold scr; simp))) (tH_up (tH_up (tH_mC (tH_mC w5)) (by decide)) (by decide))
  refine ⟨N', y1, fun v σ' => ?_⟩
  refine Iff.trans ?_ (y2 v σ')
  have e0 : jUp (jUp M 11 (0, 0) 13 0) 11 (0, 0) 14 0 = pM M 0 0 := rfl
  simp only [s134_0, s134_1, s134_2, s134_5, s134_6, s134_7, s134_10, s134_11, s134_14, s134_15, s134_16, s134_17, s134_18, s134_21, s134_22, s134_23, s134_24, s134_25, s134_26, s134_29, s134_30, s134_32, e0, jm_42, jm_46, jk1, ji1 (show 1 < 2 by decide), mC_up, pM_12, pM_mC, true_or, true_and, mC_ne (show ((46, 0) : jA) ≠ (42, 0) by decide), pM_up (show (11 : Nat) ≠ 13 ∧ (11 : Nat) ≠ 14 by decide), pM_up (show (12 : Nat) ≠ 13 ∧ (12 : Nat) ≠ 14 by decide)]
end JRB
