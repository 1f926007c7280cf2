/-! the reference reads an item -/
/-- a house that is told -/
def hTd (a b l : Nat) (h : jH) : Prop :=
  (a ≤ 7 ∧ b ≤ 7 ∧ l ≤ 7) ∧ (h 10 10 = jn a ∧ h 10 11 = jn b ∧ h 10 12 = jn l ∧ h 10 14 = 0 ∧ h 10 15 = 0) ∧ ((∀ s, h 3 s = 0) ∧ (∀ s, h 8 s = 0) ∧ ∀ s, h 9 s = jn s) ∧ cIn l a (h 4) ∧ (cBd a 0 3 (h 0) ∧ cBd a 1 20 (h 1) ∧ cBd a 0 8 (h 2)) ∧ (cBd b 0 3 (h 5) ∧ cBd b 0 3 (h 6) ∧ cBd b 0 30 (h 7))
/-- the reference's draft of it -/
def dM (a b l : Nat) (M : jM) (h : jH) : Prop :=
  (M 12 (42, 0) 1 = jn a ∧ M 12 (46, 0) 1 = jn b ∧ M 11 (0, 0) 11 = jn l ∧ M 11 (0, 0) 12 = h 10 13) ∧ (∀ s, s < a → M 12 (43, 0) (7 + s) = h 0 s ∧ M 12 (44, 0) (7 + s) = h 1 s ∧ M 12 (45, 0) (7 + s) = h 2 s) ∧ (∀ s, s < b → M 12 (47, 0) s = h 5 s ∧ M 12 (48, 0) (7 + s) = h 6 s ∧ M 12 (49, 0) (7 + s) = h 7 s) ∧ ∀ i, i < l → M 12 (50, 0) i = h 4 i
def scN (M : jM) (a : Nat) (x y u : Int32) : jM := mC (mC (mC (mC M (43, 0) (upd (M 12 (43, 0)) (7 + a) x)) (44, 0) (upd (M 12 (44, 0)) (7 + a) y)) (45, 0) (upd (M 12 (45, 0)) (7 + a) u)) (42, 0) (upd (M 12 (42, 0)) 1 (jn (a + 1)))
def seN (M : jM) (b : Nat) (x y u : Int32) : jM := mC (mC (mC (mC M (47, 0) (upd (M 12 (47, 0)) b x)) (48, 0) (upd (M 12 (48, 0)) (7 + b) y)) (49, 0) (upd (M 12 (49, 0)) (7 + b) u)) (46, 0) (upd (M 12 (46, 0)) 1 (jn (b + 1)))
section JRI
variable {d n L s s' a b l : Nat} {v : Option jV} {σ' : jS} {M N : jM} {x y z z' lo hi e : Int32} {t : Nat → Int32} {h : jH}
theorem cBd_up {m lo hi : Nat} {c c' : Nat → Int32} {x : Int32} (w : cBd m lo hi c) (h1 : jn lo ≤ x ∧ x ≤ jn hi) (hlo : lo < 1000 ∧ hi < 1000) (hc : ∀ i, c' i = if i = m then x else c i) : cBd (m + 1) lo hi c' := by
  intro i hi'
  rw [hc]
  by_cases e : i = m
  · rw [if_pos e]
    have h0 : 0 ≤ x := Int32.le_trans (jn_pos (by omega)) h1.1
    have e2 := jx_of h0
    refine ⟨x.toNatClampNeg, ?_, jx_le h0 (by omega) h1.2, e2.symm⟩
    have h3 := h1.1
    rw [← e2] at h3
    exact (jn_le (by omega) (jx_lt _)).mp h3
  · rw [if_neg e]
    exact w i (by omega)
/-- scene -/
theorem r130_full (h42 : M 12 (42, 0) 1 = 7) : jE (d + 3) 130 0 [some (.inr (.inr (some (11, (0, 0))))), none] [] (n, ([], pM M s z)) v σ' ↔ v = none ∧ σ' = (n, ([], pM M s 1)) := by
  simp only [s130_0, s130_2, s130_3, s130_6, s130_7, s130_8, s130_9, s130_10, s130_11, s130_14, s130_15, s130_16, s130_18, s130_21, s130_22, s130_23, s130_26, jm_42, jk1, ji1 (show 1 < 2 by decide), pM_12, h42, pM_p14]
  rw [if_neg (fun q => q trivial)]
  exact ⟨fun q => q.2, fun q => ⟨by simp, q⟩⟩
theorem r130 (w : tH t L M) (hs : s ≤ 900) (h42 : M 12 (42, 0) 1 = jn a) (ha : a < 7) : jE (d + 3) 130 0 [some (.inr (.inr (some (11, (0, 0))))), none] [] (n, ([], pM M s z)) v σ' ↔ v = none ∧ σ' = (n, ([], pM (scN M a (nmW t s).1 (nmW t ((nmW t s).2 + 1)).1 (nmW t ((nmW t ((nmW t s).2 + 1)).2 + 1)).1) (nmW t ((nmW t ((nmW t s).2 + 1)).2 + 1)).2 (zA (zA (zA (zA (zA z (0 ≤ (nmW t s).1 ∧ (nmW t s).1 ≤ 3)) (t (nmW t s).2 = 44)) (1 ≤ (nmW t ((nmW t s).2 + 1)).1 ∧ (nmW t ((nmW t s).2 + 1)).1 ≤ 20)) (t (nmW t ((nmW t s).2 + 1)).2 = 44)) (0 ≤ (nmW t ((nmW t ((nmW t s).2 + 1)).2 + 1)).1 ∧ (nmW t ((nmW t ((nmW t s).2 + 1)).2 + 1)).1 ≤ 8)))) := by
  have g1 := nmW_2 t s
  have g2 := nmW_2 t ((nmW t s).2 + 1)
  have g3 := nmW_2 t ((nmW t ((nmW t s).2 + 1)).2 + 1)
  rw [s130_0, s130_2, s130_3]
  simp only [s130_6, s130_7, s130_8, s130_9, s130_10, s130_11, s130_14, s130_15, s130_16, s130_18, jm_42, jk1, ji1 (show 1 < 2 by decide), pM_12, h42, jnA7]
  rw [if_pos (show ¬ jn a = 7 from fun q => by have := jn_inj (a := a) (b := 7) (by omega) (by omega) q; omega)]
  simp (disch := omega) only [s130_27, s130_28, s130_31, s130_32, s130_33, s130_34, s130_35, s130_38, s130_39, s130_40, s130_42, s130_45, s130_46, s130_49, s130_50, s130_51, s130_52, s130_54, s130_57, s130_58, s130_59, s130_61, s130_64, s130_65, s130_68, s130_69, s130_70, s130_71, s130_73, s130_76, s130_77, s130_78, s130_81, s130_82, s130_83, s130_84, s130_85, s130_86, s130_87, r129 w, r129 (tH_mC w), r129 (tH_mC (tH_mC w)), r128 (tH_mC w), r128 (tH_mC (tH_mC w)), jcall_eq, Option.toList_some, Option.toList_none, List.cons_append, List.nil_append, jm_43, jm_44, jm_45, jm_42, jk1, ji1 (show 1 < 2 by decide), jiz, jcl, mC_up, pM_12, pM_mC, mC_ne (show ((44, 0) : jA) ≠ (43, 0) by decide), mC_ne (show ((45, 0) : jA) ≠ (43, 0) by decide), mC_ne (show ((45, 0) : jA) ≠ (44, 0) by decide), mC_ne (show ((42, 0) : jA) ≠ (43, 0) by decide), mC_ne (show ((42, 0) : jA) ≠ (44, 0) by decide), mC_ne (show ((42, 0) : jA) ≠ (45, 0) by decide), h42, jn_1]
  rfl
/-- seat -/
theorem r131_full (h46 : M 12 (46, 0) 1 = 7) : jE (d + 3) 131 0 [some (.inr (.inr (some (11, (0, 0)))))] [] (n, ([], pM M s z)) v σ' ↔ v = none ∧ σ' = (n, ([], pM M s 1)) := by
  simp only [s131_0, s131_1, s131_4, s131_5, s131_6, s131_8, s131_11, s131_12, s131_13, s131_16, jm_46, jk1, ji1 (show 1 < 2 by decide), pM_12, h46, pM_p14]
  rw [if_neg (fun q => q trivial)]
  exact ⟨fun q => q.2, fun q => ⟨by simp, q⟩⟩
theorem r131 (w : tH t L M) (hs : s ≤ 900) (h46 : M 12 (46, 0) 1 = jn b) (hb : b < 7) : jE (d + 3) 131 0 [some (.inr (.inr (some (11, (0, 0)))))] [] (n, ([], pM M s z)) v σ' ↔ v = none ∧ σ' = (n, ([], pM (seN M b (nmW t s).1 (nmW t ((nmW t s).2 + 1)).1 (nmW t ((nmW t ((nmW t s).2 + 1)).2 + 1)).1) (nmW t ((nmW t ((nmW t s).2 + 1)).2 + 1)).2 (zA (zA (zA (zA (zA z (0 ≤ (nmW t s).1 ∧ (nmW t s).1 ≤ 3)) (t (nmW t s).2 = 44)) (0 ≤ (nmW t ((nmW t s).2 + 1)).1 ∧ (nmW t ((nmW t s).2 + 1)).1 ≤ 3)) (t (nmW t ((nmW t s).2 + 1)).2 = 44)) (0 ≤ (nmW t ((nmW t ((nmW t s).2 + 1)).2 + 1)).1 ∧ (nmW t ((nmW t ((nmW t s).2 + 1)).2 + 1)).1 ≤ 30)))) := by
  have g1 := nmW_2 t s
  have g2 := nmW_2 t ((nmW t s).2 + 1)
  have g3 := nmW_2 t ((nmW t ((nmW t s).2 + 1)).2 + 1)
  simp only [s131_0, s131_1, s131_4, s131_5, s131_6, s131_8, jm_46, jk1, ji1 (show 1 < 2 by decide), pM_12, h46]
  rw [if_pos (show ¬ jn b = 7 from fun q => by have := jn_inj (a := b) (b := 7) (by omega) (by omega) q; omega)]
  simp (disch := omega) only [s131_17, s131_18, s131_21, s131_22, s131_25, s131_26, s131_27, s131_28, s131_29, s131_30, s131_33, s131_34, s131_35, s131_37, s131_40, s131_41, s131_44, s131_46, s131_47, s131_50, s131_51, s131_52, s131_53, s131_54, s131_55, s131_56, s131_59, s131_60, s131_61, s131_63, s131_66, s131_67, s131_70, s131_72, s131_73, s131_76, s131_77, s131_78, s131_79, s131_80, s131_81, s131_83, s131_86, s131_87, s131_88, s131_91, s131_92, s131_93, s131_94, s131_95, s131_96, s131_97, r129 w, r129 (tH_mC w), r129 (tH_mC (tH_mC w)), r128 (tH_mC w), r128 (tH_mC (tH_mC w)), jcall_eq, Option.toList_some, Option.toList_none, List.cons_append, List.nil_append, jm_47, jm_48, jm_49, jm_46, jk1, ji1 (show 1 < 2 by decide), jiz, jcl, mC_up, pM_12, pM_mC, mC_ne (show ((48, 0) : jA) ≠ (47, 0) by decide), mC_ne (show ((49, 0) : jA) ≠ (47, 0) by decide), mC_ne (show ((49, 0) : jA) ≠ (48, 0) by decide), mC_ne (show ((46, 0) : jA) ≠ (47, 0) by decide), mC_ne (show ((46, 0) : jA) ≠ (48, 0) by decide), mC_ne (show ((46, 0) : jA) ≠ (49, 0) by decide), h46, jnA7, jn_1]
  rfl
/-- how an item ends: the reference at s', the class with the answer R -/
def itE (t : Nat → Int32) (L : Nat) (M N : jM) (s s' : Nat) (z : Int32) (R : Int32 × Nat × jH) : Prop :=
  iEq M N ∧ tH t L N ∧ s' ≤ s + 15 ∧ ((z = 0 ∧ t s' = 59) ↔ ¬ R.1 = 0) ∧ (¬ R.1 = 0 → R.2.1 = s' + 1 ∧ ∃ a b l, hTd a b l R.2.2 ∧ dM a b l N R.2.2)
theorem iEq_43 {f j : Nat} {x : Int32} (hf : f = 43 ∨ f = 44 ∨ f = 45 ∨ f = 48 ∨ f = 49) (hj : 7 ≤ j) (e : iEq M N) (hN : N 12 (f, 0) = M 12 (f, 0)) : iEq M (mC N (f, 0) (upd (M 12 (f, 0)) j x)) := by
  refine iEq_tr e (iEq_mC (fun s => ?_))
  by_cases h : s = j
  · left; unfold scr; omega
  · right
    rw [hN]
    exact if_neg h
theorem nm3_ok {t : Nat → Int32} {s : Nat} {a b c e lo : Int32} (hlo : 0 ≤ lo) :
    ((((((((0 : Int32) = 0 ∧ (0 ≤ (nmW t s).1 ∧ (nmW t s).1 ≤ a)) ∧ t (nmW t s).2 = 44) ∧ (lo ≤ (nmW t ((nmW t s).2 + 1)).1 ∧ (nmW t ((nmW t s).2 + 1)).1 ≤ b)) ∧ t (nmW t ((nmW t s).2 + 1)).2 = 44) ∧ (0 ≤ (nmW t ((nmW t ((nmW t s).2 + 1)).2 + 1)).1 ∧ (nmW t ((nmW t ((nmW t s).2 + 1)).2 + 1)).1 ≤ c)) ∧ t (nmW t ((nmW t ((nmW t s).2 + 1)).2 + 1)).2 = e) ↔ (0 ≤ (nm3 t s a b c e lo).1 ∧ 0 ≤ (nm3 t s a b c e lo).2.1 ∧ 0 ≤ (nm3 t s a b c e lo).2.2.1)) ∧
    ((0 ≤ (nm3 t s a b c e lo).1 ∧ 0 ≤ (nm3 t s a b c e lo).2.1 ∧ 0 ≤ (nm3 t s a b c e lo).2.2.1) → nm3 t s a b c e lo = ((nmW t s).1, (nmW t ((nmW t s).2 + 1)).1, (nmW t ((nmW t ((nmW t s).2 + 1)).2 + 1)).1, (nmW t ((nmW t ((nmW t s).2 + 1)).2 + 1)).2 + 1)) := by
  obtain ⟨k1, k2⟩ := nm_ok (t := t) (s := s) (lo := 0) (hi := a) (e := 44) (by decide)
  obtain ⟨k3, k4⟩ := nm_ok (t := t) (s := (nmW t s).2 + 1) (lo := lo) (hi := b) (e := 44) hlo
  obtain ⟨k5, k6⟩ := nm_ok (t := t) (s := (nmW t ((nmW t s).2 + 1)).2 + 1) (lo := 0) (hi := c) (e := e) (by decide)
  unfold nm3
  constructor
  · constructor
    · intro z
      have z1 := k1.mp ⟨z.1.1.1.1.1.2, z.1.1.1.1.2⟩
      have z2 := k3.mp ⟨z.1.1.1.2, z.1.1.2⟩
      have z3 := k5.mp ⟨z.1.2, z.2⟩
      refine ⟨z1, ?_⟩
      rw [(k2 z1).2]
      refine ⟨z2, ?_⟩
      rw [(k4 z2).2]
      exact z3
    · rintro ⟨z1, z2⟩
      rw [(k2 z1).2] at z2
      obtain ⟨z2, z3⟩ := z2
      rw [(k4 z2).2] at z3
      have y1 := k1.mpr z1
      have y2 := k3.mpr z2
      have y3 := k5.mpr z3
      exact ⟨⟨⟨⟨⟨⟨rfl, y1.1⟩, y1.2⟩, y2.1⟩, y2.2⟩, y3.1⟩, y3.2⟩
  · rintro ⟨z1, z2⟩
    rw [(k2 z1).2] at z2 ⊢
    obtain ⟨z2, z3⟩ := z2
    rw [(k4 z2).2] at z3 ⊢
    rw [(k2 z1).1, (k4 z2).1, (k6 z3).1, (k6 z3).2]
theorem itE_sc (w : tH t L M) (g : hTd a b l h) (q : dM a b l M h) (hs : s ≤ 900) : ∃ N s' z', itE t L M N s s' z' (scRd t s h) ∧ ∀ (v : Option jV) (σ' : jS), jE (d + 3) 130 0 [some (.inr (.inr (some (11, (0, 0))))), none] [] (n, ([], pM M s 0)) v σ' ↔ v = none ∧ σ' = (n, ([], pM N s' z')) := by
  obtain ⟨g1, g2, g3, g4, g5, g6⟩ := g
  by_cases ha : a = 7
  · refine ⟨M, s, 1, ⟨iEq_rfl M, w, by omega, ?_, ?_⟩, fun v σ' => r130_full (by rw [q.1.1, ha]; rfl)⟩
    · have e : (scRd t s h).1 = 0 := by
        unfold scRd
        rw [if_neg (fun z => by
          have z2 := z.2
          rw [g2.1, ha] at z2
          exact absurd z2 (by decide))]
      rw [e]
      exact ⟨fun z => absurd z.1 (by decide), fun z => absurd rfl z⟩
    · intro z
      unfold scRd at z
      rw [if_neg (fun z => by
          have z2 := z.2
          rw [g2.1, ha] at z2
          exact absurd z2 (by decide))] at z
      exact absurd rfl z
  · have e1 := nmW_2 t s
    have e2 := nmW_2 t ((nmW t s).2 + 1)
    have e3 := nmW_2 t ((nmW t ((nmW t s).2 + 1)).2 + 1)
    refine ⟨_, _, _, ⟨?_, ?_, ?_, ?_, ?_⟩, fun v σ' => r130 (a := a) w hs q.1.1 (by omega)⟩
    · unfold scN
      refine iEq_tr (iEq_43 (f := 45) (j := 7 + a) (by omega) (by omega) (iEq_43 (f := 44) (j := 7 + a) (by omega) (by omega) (iEq_43 (f := 43) (j := 7 + a) (by omega) (by omega) (iEq_rfl M) rfl) (mC_ne (by decide))) (by rw [mC_ne (by decide), mC_ne (by decide)])) (iEq_mC (fun i => ?_))
      by_cases h1 : i = 1
      · left; unfold scr; simp; omega
      · right
        rw [mC_ne (by decide), mC_ne (by decide), mC_ne (by decide)]
        exact if_neg h1
    · unfold scN
      exact tH_mC (tH_mC (tH_mC (tH_mC w)))
    · omega
    · rw [zA_0, zA_0, zA_0, zA_0, zA_0]
      refine (nm3_ok (e := 59) (by decide)).1.trans ?_
      unfold scRd
      by_cases h1 : (0 ≤ (nm3 t s 3 20 8 59 1).1 ∧ 0 ≤ (nm3 t s 3 20 8 59 1).2.1 ∧ 0 ≤ (nm3 t s 3 20 8 59 1).2.2.1)
      · rw [if_pos ⟨h1, by rw [g2.1]; exact (jn_lt (k := a) (l := 7) (by omega) (by omega)).mpr (by omega)⟩]
        exact ⟨fun _ => show ¬ (1 : Int32) = 0 by decide, fun _ => h1⟩
      · rw [if_neg (fun z => h1 z.1)]
        exact ⟨fun z => absurd z h1, fun z => absurd rfl z⟩
    · intro hR
      have h2 : ((0 ≤ (nm3 t s 3 20 8 59 1).1 ∧ 0 ≤ (nm3 t s 3 20 8 59 1).2.1 ∧ 0 ≤ (nm3 t s 3 20 8 59 1).2.2.1)) ∧ h 10 10 < 7 := by
        by_cases h2 : ((0 ≤ (nm3 t s 3 20 8 59 1).1 ∧ 0 ≤ (nm3 t s 3 20 8 59 1).2.1 ∧ 0 ≤ (nm3 t s 3 20 8 59 1).2.2.1)) ∧ h 10 10 < 7
        · exact h2
        · unfold scRd at hR
          rw [if_neg h2] at hR
          exact absurd rfl hR
      have h3 := (nm3_ok (t := t) (s := s) (a := 3) (b := 20) (c := 8) (lo := 1) (e := 59) (by decide)).1.mpr h2.1
      have h4 := (nm3_ok (t := t) (s := s) (a := 3) (b := 20) (c := 8) (lo := 1) (e := 59) (by decide)).2 h2.1
      unfold scRd
      rw [if_pos h2, h4]
      refine ⟨rfl, a + 1, b, l, ⟨⟨by omega, g1.2⟩, ⟨?_, ?_, ?_, ?_, ?_⟩, ?_, ?_, ⟨?_, ?_, ?_⟩, ?_⟩, ⟨⟨?_, ?_, ?_, ?_⟩, ?_, ?_, ?_⟩⟩
      · exact (congrArg (· + 1) g2.1).trans (jn_1 a)
      · exact g2.2.1
      · exact g2.2.2.1
      · exact g2.2.2.2.1
      · exact g2.2.2.2.2
      · exact g3
      · exact ⟨fun i hi => by obtain ⟨r, q1, q2⟩ := g4.1 i hi; exact ⟨r, by omega, q2⟩, g4.2⟩
      · refine cBd_up g5.1 h3.1.1.1.1.1.2 (by omega) (fun i => ?_)
        show rs 7 (h 0) (h 10 10) _ i = _
        rw [g2.1, rs_in (by omega) (by omega)]
        rfl
      · refine cBd_up g5.2.1 h3.1.1.1.2 (by omega) (fun i => ?_)
        show rs 7 (h 1) (h 10 10) _ i = _
        rw [g2.1, rs_in (by omega) (by omega)]
        rfl
      · refine cBd_up g5.2.2 h3.1.2 (by omega) (fun i => ?_)
        show rs 7 (h 2) (h 10 10) _ i = _
        rw [g2.1, rs_in (by omega) (by omega)]
        rfl
      · exact g6
      · unfold scN
        rw [mC_at]
        rfl
      · unfold scN
        rw [mC_ne (by decide), mC_ne (by decide), mC_ne (by decide), mC_ne (by decide)]
        exact q.1.2.1
      · unfold scN
        rw [mC_k (by decide), mC_k (by decide), mC_k (by decide), mC_k (by decide)]
        exact q.1.2.2.1
      · unfold scN
        rw [mC_k (by decide), mC_k (by decide), mC_k (by decide), mC_k (by decide)]
        exact q.1.2.2.2
      · intro i hi
        unfold scN
        rw [mC_ne (by decide), mC_ne (by decide), mC_ne (by decide), mC_at, mC_ne (by decide), mC_ne (by decide), mC_at, mC_ne (by decide), mC_at]
        show upd (M 12 (43, 0)) (7 + a) _ (7 + i) = rs 7 (h 0) (h 10 10) _ i ∧ upd (M 12 (44, 0)) (7 + a) _ (7 + i) = rs 7 (h 1) (h 10 10) _ i ∧ upd (M 12 (45, 0)) (7 + a) _ (7 + i) = rs 7 (h 2) (h 10 10) _ i
        rw [g2.1, rs_in (by omega) (by omega), rs_in (by omega) (by omega), rs_in (by omega) (by omega)]
        unfold upd
        by_cases e : i = a
        · have k : 7 + i = 7 + a := by omega
          exact ⟨(if_pos k).trans (if_pos e).symm, (if_pos k).trans (if_pos e).symm, (if_pos k).trans (if_pos e).symm⟩
        · have k : ¬ 7 + i = 7 + a := by omega
          have y := q.2.1 i (by omega)
          exact ⟨(if_neg k).trans (y.1.trans (if_neg e).symm), (if_neg k).trans (y.2.1.trans (if_neg e).symm), (if_neg k).trans (y.2.2.trans (if_neg e).symm)⟩
      · intro i hi
        unfold scN
        rw [mC_ne (by decide), mC_ne (by decide), mC_ne (by decide), mC_ne (by decide), mC_ne (by decide), mC_ne (by decide), mC_ne (by decide), mC_ne (by decide), mC_ne (by decide), mC_ne (by decide), mC_ne (by decide), mC_ne (by decide)]
        exact q.2.2.1 i hi
      · intro i hi
        unfold scN
        rw [mC_ne (by decide), mC_ne (by decide), mC_ne (by decide), mC_ne (by decide)]
        exact q.2.2.2 i hi
theorem itE_se (w : tH t L M) (g : hTd a b l h) (q : dM a b l M h) (hs : s ≤ 900) : ∃ N s' z', itE t L M N s s' z' (seRd t s h) ∧ ∀ (v : Option jV) (σ' : jS), jE (d + 3) 131 0 [some (.inr (.inr (some (11, (0, 0)))))] [] (n, ([], pM M s 0)) v σ' ↔ v = none ∧ σ' = (n, ([], pM N s' z')) := by
  obtain ⟨g1, g2, g3, g4, g5, g6⟩ := g
  by_cases hb : b = 7
  · refine ⟨M, s, 1, ⟨iEq_rfl M, w, by omega, ?_, ?_⟩, fun v σ' => r131_full (by rw [q.1.2.1, hb]; rfl)⟩
    · have e : (seRd t s h).1 = 0 := by
        unfold seRd
        rw [if_neg (fun z => by
          have z2 := z.2
          rw [g2.2.1, hb] at z2
          exact absurd z2 (by decide))]
      rw [e]
      exact ⟨fun z => absurd z.1 (by decide), fun z => absurd rfl z⟩
    · intro z
      unfold seRd at z
      rw [if_neg (fun z => by
          have z2 := z.2
          rw [g2.2.1, hb] at z2
          exact absurd z2 (by decide))] at z
      exact absurd rfl z
  · have e1 := nmW_2 t s
    have e2 := nmW_2 t ((nmW t s).2 + 1)
    have e3 := nmW_2 t ((nmW t ((nmW t s).2 + 1)).2 + 1)
    refine ⟨_, _, _, ⟨?_, ?_, ?_, ?_, ?_⟩, fun v σ' => r131 (b := b) w hs q.1.2.1 (by omega)⟩
    · unfold seN
      refine iEq_tr (iEq_43 (f := 49) (j := 7 + b) (by omega) (by omega) (iEq_43 (f := 48) (j := 7 + b) (by omega) (by omega) (iEq_mC (a := (47, 0)) (fun i => Or.inl (by unfold scr; simp))) (mC_ne (by decide))) (by rw [mC_ne (by decide), mC_ne (by decide)])) (iEq_mC (fun i => ?_))
      by_cases h1 : i = 1
      · left; unfold scr; simp; omega
      · right
        rw [mC_ne (by decide), mC_ne (by decide), mC_ne (by decide)]
        exact if_neg h1
    · unfold seN
      exact tH_mC (tH_mC (tH_mC (tH_mC w)))
    · omega
    · rw [zA_0, zA_0, zA_0, zA_0, zA_0]
      refine (nm3_ok (e := 59) (by decide)).1.trans ?_
      unfold seRd
      by_cases h1 : (0 ≤ (nm3 t s 3 3 30 59 0).1 ∧ 0 ≤ (nm3 t s 3 3 30 59 0).2.1 ∧ 0 ≤ (nm3 t s 3 3 30 59 0).2.2.1)
      · rw [if_pos ⟨h1, by rw [g2.2.1]; exact (jn_lt (k := b) (l := 7) (by omega) (by omega)).mpr (by omega)⟩]
        exact ⟨fun _ => show ¬ (1 : Int32) = 0 by decide, fun _ => h1⟩
      · rw [if_neg (fun z => h1 z.1)]
        exact ⟨fun z => absurd z h1, fun z => absurd rfl z⟩
    · intro hR
      have h2 : ((0 ≤ (nm3 t s 3 3 30 59 0).1 ∧ 0 ≤ (nm3 t s 3 3 30 59 0).2.1 ∧ 0 ≤ (nm3 t s 3 3 30 59 0).2.2.1)) ∧ h 10 11 < 7 := by
        by_cases h2 : ((0 ≤ (nm3 t s 3 3 30 59 0).1 ∧ 0 ≤ (nm3 t s 3 3 30 59 0).2.1 ∧ 0 ≤ (nm3 t s 3 3 30 59 0).2.2.1)) ∧ h 10 11 < 7
        · exact h2
        · unfold seRd at hR
          rw [if_neg h2] at hR
          exact absurd rfl hR
      have h3 := (nm3_ok (t := t) (s := s) (a := 3) (b := 3) (c := 30) (lo := 0) (e := 59) (by decide)).1.mpr h2.1
      have h4 := (nm3_ok (t := t) (s := s) (a := 3) (b := 3) (c := 30) (lo := 0) (e := 59) (by decide)).2 h2.1
      unfold seRd
      rw [if_pos h2, h4]
      refine ⟨rfl, a, b + 1, l, ⟨⟨g1.1, by omega, g1.2.2⟩, ⟨?_, ?_, ?_, ?_, ?_⟩, ?_, ?_, ?_, ⟨?_, ?_, ?_⟩⟩, ⟨⟨?_, ?_, ?_, ?_⟩, ?_, ?_, ?_⟩⟩
      · exact g2.1
      · exact (congrArg (· + 1) g2.2.1).trans (jn_1 b)
      · exact g2.2.2.1
      · exact g2.2.2.2.1
      · exact g2.2.2.2.2
      · exact g3
      · exact g4
      · exact g5
      · refine cBd_up g6.1 h3.1.1.1.1.1.2 (by omega) (fun i => ?_)
        show rs 7 (h 5) (h 10 11) _ i = _
        rw [g2.2.1, rs_in (by omega) (by omega)]
        rfl
      · refine cBd_up g6.2.1 h3.1.1.1.2 (by omega) (fun i => ?_)
        show rs 7 (h 6) (h 10 11) _ i = _
        rw [g2.2.1, rs_in (by omega) (by omega)]
        rfl
      · refine cBd_up g6.2.2 h3.1.2 (by omega) (fun i => ?_)
        show rs 7 (h 7) (h 10 11) _ i = _
        rw [g2.2.1, rs_in (by omega) (by omega)]
        rfl
      · unfold seN
        rw [mC_ne (by decide), mC_ne (by decide), mC_ne (by decide), mC_ne (by decide)]
        exact q.1.1
      · unfold seN
        rw [mC_at]
        rfl
      · unfold seN
        rw [mC_k (by decide), mC_k (by decide), mC_k (by decide), mC_k (by decide)]
        exact q.1.2.2.1
      · unfold seN
        rw [mC_k (by decide), mC_k (by decide), mC_k (by decide), mC_k (by decide)]
        exact q.1.2.2.2
      · intro i hi
        unfold seN
        rw [mC_ne (by decide), mC_ne (by decide), mC_ne (by decide), mC_ne (by decide), mC_ne (by decide), mC_ne (by decide), mC_ne (by decide), mC_ne (by decide), mC_ne (by decide), mC_ne (by decide), mC_ne (by decide), mC_ne (by decide)]
        exact q.2.1 i hi
      · intro i hi
        unfold seN
        rw [mC_ne (by decide), mC_ne (by decide), mC_ne (by decide), mC_at, mC_ne (by decide), mC_ne (by decide), mC_at, mC_ne (by decide), mC_at]
        show upd (M 12 (47, 0)) b _ i = rs 7 (h 5) (h 10 11) _ i ∧ upd (M 12 (48, 0)) (7 + b) _ (7 + i) = rs 7 (h 6) (h 10 11) _ i ∧ upd (M 12 (49, 0)) (7 + b) _ (7 + i) = rs 7 (h 7) (h 10 11) _ i
        rw [g2.2.1, rs_in (by omega) (by omega), rs_in (by omega) (by omega), rs_in (by omega) (by omega)]
        unfold upd
        by_cases e : i = b
        · have k : 7 + i = 7 + b := by omega
          exact ⟨(if_pos e).trans (if_pos e).symm, (if_pos k).trans (if_pos e).symm, (if_pos k).trans (if_pos e).symm⟩
        · have k : ¬ 7 + i = 7 + b := by omega
          have y := q.2.2.1 i (by omega)
          exact ⟨(if_neg e).trans (y.1.trans (if_neg e).symm), (if_neg k).trans (y.2.1.trans (if_neg e).symm), (if_neg k).trans (y.2.2.trans (if_neg e).symm)⟩
      · intro i hi
        unfold seN
        rw [mC_ne (by decide), mC_ne (by decide), mC_ne (by decide), mC_ne (by decide)]
        exact q.2.2.2 i hi
end JRI
