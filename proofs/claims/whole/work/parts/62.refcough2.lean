/-! the reference: coughs, season -/
section JRK2
variable {d n K a b l f : Nat} {v : Option jV} {σ' : jS} {M M' : jM} {x y z : Int32} {h g nv : jH} {c : Nat → Int32}
theorem cAbove_n (w : hOk K a b l h) {X : Nat} (hX : X ≤ 10) : ∃ A, A < 2147483648 ∧ cAbove h (jn X) = jn A := by
  have w1 := w.1
  have hp128 : 2 ^ b ≤ 128 := by
    have e2 : ∀ b : Fin 8, 2 ^ b.1 ≤ 128 := by decide +kernel
    exact e2 ⟨b, by omega⟩
  have hp10 : 10 ^ b ≤ 10000000 := by
    have e2 : ∀ b : Fin 8, 10 ^ b.1 ≤ 10000000 := by decide +kernel
    exact e2 ⟨b, by omega⟩
  unfold cAbove
  rw [(hSets_eq w).1]
  have a1 := jfor_two (R := fun k (u : Int32) (_ : Unit) => ∃ q, q ≤ 10000000 * k ∧ u = jn q) (f := cgStep h (jn X)) (f' := fun _ u => u) (2 ^ b) 0 0 () (fun j u _ _ _ z => by
    obtain ⟨q, q1, q2⟩ := z
    obtain ⟨p, p1, p2⟩ := weight_pos (b := b) (h := h) (set := jn j) hX
    have eW : cWeight h (jn j) (jn X) = mW h b (jn j) (jn X) := by
      unfold cWeight
      rw [hOk_S w]
      exact weight_eq w b 0 1 (by omega)
    unfold cgStep
    rw [eW, p2]
    by_cases c0 : jn p = 0
    · rw [if_pos c0]; exact ⟨q, by omega, q2⟩
    · rw [if_neg c0]
      by_cases c1 : nCarry h (nUnfold h (jn j))
      · rw [if_pos c1]; exact ⟨q + p, by omega, by rw [q2, jn_add]⟩
      · rw [if_neg c1]; exact ⟨q, by omega, q2⟩) ⟨0, by omega, rfl⟩
  rw [Nat.zero_add] at a1
  obtain ⟨q, q1, q2⟩ := a1
  exact ⟨q, by have := Nat.mul_le_mul_left 10000000 hp128; omega, q2⟩
theorem cBelow_n (w : hOk K a b l h) : ∃ B, 1 ≤ B ∧ B ≤ 10000000 ∧ cBelow h = jn B := by
  have w1 := w.1
  have hp10 : 10 ^ b ≤ 10000000 := by
    have e2 : ∀ b : Fin 8, 10 ^ b.1 ≤ 10000000 := by decide +kernel
    exact e2 ⟨b, by omega⟩
  unfold cBelow
  rw [hOk_S w]
  have a1 := jfor_two (R := fun k (u : Int32) (_ : Unit) => ∃ q, 1 ≤ q ∧ q ≤ 10 ^ k ∧ u = jn q) (f := fun k b => if cCan h (jn k) then b * 10 else b) (f' := fun _ u => u) b 0 1 () (fun j u _ _ _ z => by
    obtain ⟨q, q0, q1, q2⟩ := z
    show ∃ q, 1 ≤ q ∧ q ≤ 10 ^ (j + 1) ∧ (if cCan h (jn j) then u * 10 else u) = jn q
    rw [Nat.pow_succ]
    by_cases c0 : cCan h (jn j)
    · rw [if_pos c0]; exact ⟨q * 10, by omega, by omega, by rw [q2, show (10 : Int32) = jn 10 from rfl, jn_mul]⟩
    · rw [if_neg c0]; exact ⟨q, by omega, by omega, q2⟩) ⟨1, by omega, by omega, rfl⟩
  rw [Nat.zero_add] at a1
  obtain ⟨q, q0, q1, q2⟩ := a1
  exact ⟨q, q0, by omega, q2⟩
/-- coughs -/
theorem m189 (w : rO K a b l 55 M h) (hK : K ≤ 1000000) (hy : M 11 (0, 0) 25 = 0) : ∃ M2, iEq M M2 ∧ jE (d + 20) 189 0 (lm [.inl x, .inl y] ++ [none, none, none, none, none, none]) [] (n, ([], M)) (some (.inl (lwCough h x y))) (n, ([], M2)) := by
  have w1 := w.1.1
  unfold lwCough
  by_cases h1 : 0 ≤ x ∧ x ≤ 10
  · by_cases h2 : 0 ≤ y ∧ y ≤ 1
    · rw [if_pos ⟨h1, h2⟩]
      have ex := jx_of h1.1
      have hX := jx_le h1.1 (k := 10) (by omega) h1.2
      generalize x.toNatClampNeg = X at ex hX
      subst ex
      obtain ⟨A, hA, eA⟩ := cAbove_n w.1 hX
      obtain ⟨B, hB0, hB, eB⟩ := cBelow_n w.1
      have eG : cGcd h (jn X) = jn (Nat.gcd A B) := by
        unfold cGcd
        rw [eA, eB]
        exact gcdRun_eq 24 100 A B (by omega) (by omega) hA (by omega)
      have hG1 : 1 ≤ Nat.gcd A B := Nat.gcd_pos_of_pos_right A (by omega)
      have hG2 : Nat.gcd A B ≤ B := Nat.gcd_le_right A (by omega)
      have nG : ¬ jn (Nat.gcd A B) = 0 := fun z => by have := jn_inj (a := Nat.gcd A B) (b := 0) (by omega) (by omega) z; omega
      obtain ⟨z', g', a5', a6', a7', a8', es⟩ := m189_sets (d := d) (n := n) (y := y) (a4 := some (.inl 1)) w hK hX (2 ^ b) 0 0 0 (gG M) none none none (by omega)
      have eA2 : jfor (cgStep h (jn X)) (2 ^ b) 0 0 = jn A := by
        rw [← eA]
        unfold cAbove
        rw [(hSets_eq w.1).1]
      have eB2 : jfor (fun k b => if cCan h (jn k) then b * 10 else b) b 0 1 = jn B := by
        rw [← eB]
        unfold cBelow
        rw [hOk_S w.1]
      have e0 : sG (jUp M 11 (0, 0) 25 0) (gG M) = M := by
        rw [← hy, jUp_self, sG_self]
      rw [e0, eA2] at es
      have eg : ∀ (v : Option jV) (σ' : jS), _ := fun v σ' => m189_below (d := d) (n := n) (x := jn X) (y := y) (z := 0) (g := g') (a3 := some (.inl (jn A))) (a6 := a6') (a7 := a7') (a8 := a8') (v := v) (σ' := σ') w b 0 1 (by omega)
      rw [eB2] at eg
      obtain ⟨b6, b7, eG2⟩ := m189_gcd (d := d) (x := jn X) (y := y) (a3 := some (.inl (jn A))) (a4 := some (.inl (jn B))) (σ := (n, ([], sG (jUp M 11 (0, 0) 25 0) g'))) B A a7' a8' hA (by omega)
      have eM : sG (jUp M 11 (0, 0) 25 0) g' = sG M g' := by rw [← hy, jUp_self]
      refine ⟨sG M g', iEq_sG, jE_of (fun v σ' => ?_)⟩
      simp only [lm, List.map_cons, List.map_nil, s189_0, s189_1, s189_2, s189_4, s189_7, s189_10, s189_11, s189_12, s189_13, s189_16, s189_21, s189_22, s189_23, s189_24, s189_26, s189_27, r123, jcall_eq, Option.toList_some, Option.toList_none, List.cons_append, List.nil_append, jb_0, Classical.not_not, jifN, if_pos h1, if_pos h2]
      refine (es v σ').trans ?_
      simp only [s189_164, s189_165, s189_166, s189_169, s189_170, up_sG (show (11 : Nat) ≠ 12 by decide) (show (11 : Nat) ≠ 13 by decide), jUp_up]
      refine (eg v σ').trans ?_
      simp only [s189_213, s189_214, s189_216, s189_218]
      refine (eG2 v σ').trans ?_
      unfold cgRes
      rw [eG, eA, eB, if_neg (show ¬ jn (Nat.gcd A B) < 1 from fun z => by have := (jn_lt (k := Nat.gcd A B) (l := 1) (by omega) (by omega)).mp z; omega)]
      simp only [s189_243, s189_244, s189_247, s189_248, s189_250, s189_251, s189_254, s189_256, s189_258, s189_259, nG, not_false_eq_true, true_and, jifN, eM, jif]
    · refine ⟨M, iEq_rfl M, jE_of (fun v σ' => ?_)⟩
      rw [if_neg (fun z => h2 z.2)]
      simp only [lm, List.map_cons, List.map_nil, s189_0, s189_1, s189_2, s189_4, s189_7, s189_10, s189_11, s189_12, s189_13, s189_16, s189_19, s189_20, r123, jcall_eq, Option.toList_some, Option.toList_none, List.cons_append, List.nil_append, jb_0, Classical.not_not, jifN, if_pos h1, if_neg h2]
  · refine ⟨M, iEq_rfl M, jE_of (fun v σ' => ?_)⟩
    rw [if_neg (fun z => h1 z.1)]
    simp only [lm, List.map_cons, List.map_nil, s189_0, s189_1, s189_2, s189_4, s189_7, s189_19, s189_20, r123, jcall_eq, Option.toList_some, Option.toList_none, List.cons_append, List.nil_append, jb_0, Classical.not_not, jifN, if_neg h1]
theorem draw_10 (w : hOk K a b l h) (x : Int32) : cDraw h x 10 15 = h 10 15 + (if (x % 8).toInt = 0 ∨ (x % 8).toInt = 1 then 0 else if (x % 8).toInt = 2 then 0 else if (x % 8).toInt = 3 then 0 else if (x % 8).toInt = 4 then 0 else jb (hCanOpen h ∧ hPass h)) := by
  unfold cDraw
  by_cases c0 : (x % 8).toInt = 0 ∨ (x % 8).toInt = 1
  · rw [if_pos c0, if_pos c0, Int32.add_zero]
    by_cases e : hBilled h (dS h x)
    · rw [if_pos e]
    · rw [if_neg e]; unfold hMount; rw [hSc_10' (by decide), nset_ne (by decide)]
  · rw [if_neg c0, if_neg c0]
    by_cases c2 : (x % 8).toInt = 2
    · rw [if_pos c2, if_pos c2, Int32.add_zero]
      by_cases e : hBilled h (dS h x)
      · rw [if_pos e]; unfold hStrike; rw [hSc_10' (by decide), nset_ne (by decide)]
      · rw [if_neg e]
    · rw [if_neg c2, if_neg c2]
      by_cases c3 : (x % 8).toInt = 3
      · rw [if_pos c3, if_pos c3, Int32.add_zero]
        by_cases e : dH h x = dG h x
        · rw [if_pos e]
        · rw [if_neg e]; unfold hTrade; rw [nset_ne (by decide)]
      · rw [if_neg c3, if_neg c3]
        by_cases c4 : (x % 8).toInt = 4
        · rw [if_pos c4, if_pos c4, Int32.add_zero]
          by_cases e : hCanEng h (dH h x)
          · rw [if_pos e]; unfold hEng; rw [hSc_10' (by decide), nset_ne (by decide)]
          · rw [if_neg e]
        · rw [if_neg c4, if_neg c4]
          by_cases e : hCanOpen h
          · rw [if_pos e, hSettle_10, if_neg (by decide), if_neg (by decide)]
            by_cases c : hPass h
            · rw [if_pos ⟨rfl, c⟩, jb_t ⟨e, c⟩]
            · rw [if_neg (fun z => c z.2), jb_f (fun z => c z.2), Int32.add_zero]
          · rw [if_neg e, jb_f (fun z => e z.1), Int32.add_zero]
theorem cDraw_f {x : Int32} {r : Nat} (h3 : r ≠ 3) (h4 : r ≠ 4) (h5 : r ≠ 5) (h8 : r ≠ 8) (h9 : r ≠ 9) (h10 : r ≠ 10) : cDraw h x r = h r := by
  unfold cDraw
  by_cases c0 : (x % 8).toInt = 0 ∨ (x % 8).toInt = 1
  · rw [if_pos c0]
    by_cases e : hBilled h (dS h x)
    · rw [if_pos e]
    · rw [if_neg e]; exact hMount_f h4 h10
  · rw [if_neg c0]
    by_cases c2 : (x % 8).toInt = 2
    · rw [if_pos c2]
      by_cases e : hBilled h (dS h x)
      · rw [if_pos e]; exact hStrike_f h4 h10
      · rw [if_neg e]
    · rw [if_neg c2]
      by_cases c3 : (x % 8).toInt = 3
      · rw [if_pos c3]
        by_cases e : dH h x = dG h x
        · rw [if_pos e]
        · rw [if_neg e]; unfold hTrade; rw [nset_ne h9]
      · rw [if_neg c3]
        by_cases c4 : (x % 8).toInt = 4
        · rw [if_pos c4]
          by_cases e : hCanEng h (dH h x)
          · rw [if_pos e]; unfold hEng; rw [hSc_f h10, nset_ne h5]
          · rw [if_neg e]
        · rw [if_neg c4]
          by_cases e : hCanOpen h
          · rw [if_pos e, hSettle_row h3 h10, hBindAll_f h8, if_c]
          · rw [if_neg e]
set_option maxHeartbeats 1000000 in
/-- turn -/
theorem r190 (w : rO K a b l 60 M h) (hK : K ≤ 1000000) (hy : M 11 (0, 0) 25 = 0) {r : Nat} (hr : r < 65521) : ∃ M2 l', iEq M M2 ∧ rO (K + 7) a b l' 60 M2 (cDraw h (jn r)) ∧ jE (d + 12) 190 0 [some (.inr (.inr (some (11, (0, 0))))), some (.inl (jn r)), none, none, none, none] [] (n, ([], M)) (some (.inl (cDraw h (jn r) 10 15 - h 10 15))) (n, ([], M2)) := by
  have w1 := w.1.1
  have n8 : (¬ (8 : Int32) = 0) = True := by simp
  have n64 : (¬ (64 : Int32) = 0) = True := by simp
  have na : ¬ jn a = 0 := fun z => by have := jn_inj (a := a) (b := 0) (by omega) (by omega) z; omega
  have nb : ¬ jn b = 0 := fun z => by have := jn_inj (a := b) (b := 0) (by omega) (by omega) z; omega
  have eS := dS_of w.1 (show r < 2147483648 by omega)
  have eH := dH_of w.1 (show r < 2147483648 by omega)
  have eG := dG_of w.1 (show r < 2147483648 by omega)
  have hS : r / 8 % a < a := Nat.mod_lt _ (by omega)
  have hH : r / 8 % b < b := Nat.mod_lt _ (by omega)
  have hG : r / 64 % b < b := Nat.mod_lt _ (by omega)
  have d8 := Nat.div_le_self r 8
  have d64 := Nat.div_le_self r 64
  have hm8 : r % 8 < 8 := Nat.mod_lt _ (by omega)
  have e8 : jn r % 8 = jn (r % 8) := jn_mod (b := 8) (by omega) (by omega)
  obtain ⟨l2, hd⟩ := hOk_draw w.1 (show r < 2147483648 by omega)
  have hp := draw_10 w.1 (jn r)
  have sub0 : ∀ A B : Int32, A + B - A = B := fun A B => by rw [Int32.add_comm]; exact Int32.add_sub_cancel _ _
  have head : ∀ (v : Option jV) (σ' : jS), jE (d + 12) 190 0 [some (.inr (.inr (some (11, (0, 0))))), some (.inl (jn r)), none, none, none, none] [] (n, ([], M)) v σ' ↔ jE (d + 12) 190 51 [some (.inr (.inr (some (11, (0, 0))))), some (.inl (jn r)), some (.inl (dS h (jn r))), some (.inl (dH h (jn r))), some (.inl (dG h (jn r))), some (.inl (hOnBill h (dS h (jn r))))] [.inl (jn r % 8)] (n, ([], M)) v σ' := by
    intro v σ'
    unfold dS dH dG
    rw [w.1.2.1.1, w.1.2.1.2.1]
    simp only [s190_0, s190_1, s190_3, s190_4, s190_5, s190_8, s190_9, s190_10, s190_11, s190_12, s190_13, s190_15, s190_16, s190_17, s190_20, s190_21, s190_22, s190_23, s190_24, s190_25, s190_27, s190_28, s190_29, s190_32, s190_33, s190_34, s190_35, s190_37, s190_38, s190_41, s190_42, s190_45, s190_47, s190_48, s190_50, n8, n64, na, nb, not_false_eq_true, true_and, jm_42, jm_46, jk0, ji0 (show 0 < 2 by decide), w.2.1.1.1, w.2.1.1.2, r145 w, jcall_eq, Option.toList_some, Option.toList_none, List.cons_append, List.nil_append]
  by_cases c0 : (jn r % 8).toInt = 0 ∨ (jn r % 8).toInt = 1
  · rw [if_pos c0] at hp
    rw [hp, sub0]
    have go : ∀ (v : Option jV) (σ' : jS), jE (d + 12) 190 0 [some (.inr (.inr (some (11, (0, 0))))), some (.inl (jn r)), none, none, none, none] [] (n, ([], M)) v σ' ↔ jE (d + 12) 190 84 [some (.inr (.inr (some (11, (0, 0))))), some (.inl (jn r)), some (.inl (dS h (jn r))), some (.inl (dH h (jn r))), some (.inl (dG h (jn r))), some (.inl (hOnBill h (dS h (jn r))))] [] (n, ([], M)) v σ' := by
      intro v σ'
      rw [head, s190_51]
      by_cases c00 : (jn r % 8).toInt = 0
      · rw [if_pos c00]
      · rw [if_neg c00, if_pos (c0.resolve_left c00)]
    have eD : cDraw h (jn r) = if hBilled h (dS h (jn r)) then h else hMount h (dS h (jn r)) (hB h) := if_pos c0
    by_cases e : hBilled h (dS h (jn r))
    · rw [if_pos e] at eD
      refine ⟨M, l, iEq_rfl M, ?_, jE_of (fun v σ' => ?_)⟩
      · rw [eD]; exact ⟨hOk_K w.1 (by omega), w.2⟩
      · rw [go]
        simp only [s190_84, s190_86, s190_88, s190_106, s190_107]
        rw [if_pos e]
    · rw [if_neg e, hOk_B w.1] at eD
      have e2 := e
      rw [eS] at e2
      have hl := hOk_room w.1 hS e2
      obtain ⟨c', r', et⟩ := r164 (d := d + 11) (n := n) (x := dS h (jn r)) w (show l < 7 by omega) (Nat.le_refl l)
      refine ⟨mC M (60, 0) c', l + 1, iEq_60, ?_, jE_of (fun v σ' => ?_)⟩
      · rw [eD]
        refine rO_mC (Or.inr rfl) ?_ (rS_rows w.2.1 (hMount_f (by decide) (by decide)) (hMount_f (by decide) (by decide)) (hMount_f (by decide) (by decide)) (hMount_f (by decide) (by decide)) (hMount_f (by decide) (by decide))) r'
        rw [eS]
        exact hOk_K (hOk_mount w.1 hS (Nat.le_refl l) e2) (by omega)
      · rw [go]
        simp only [s190_84, s190_86, s190_88, s190_91, s190_92, s190_95, s190_96, s190_97, s190_100, s190_102, s190_103, s190_106, s190_107, jm_60, jk7, ji7 (show 7 < 39 by decide), w.2.2.1.2.1.1, w.1.2.1.2.2, et, jcall_eq, Option.toList_some, Option.toList_none, List.cons_append, List.nil_append]
        rw [if_neg e]
  · rw [if_neg c0] at hp
    by_cases c2 : (jn r % 8).toInt = 2
    · rw [if_pos c2] at hp
      rw [hp, sub0]
      have eD : cDraw h (jn r) = if hBilled h (dS h (jn r)) then hStrike h (dS h (jn r)) else h := by
        unfold cDraw
        rw [if_neg c0, if_pos c2]
      by_cases e : hBilled h (dS h (jn r))
      · rw [if_pos e] at eD
        obtain ⟨p, hp1, hp2⟩ := (hOk_billed w.1).mp e
        have ep := hOk_at w.1 hp1 hp2
        obtain ⟨c', r', et⟩ := r165 (d := d + 11) (n := n) w hp1 hp2
        refine ⟨mC M (60, 0) c', l - 1, iEq_60, ?_, jE_of (fun v σ' => ?_)⟩
        · rw [eD]
          exact rO_mC (Or.inr rfl) (hOk_K (hOk_strike w.1 e) (by omega)) (rS_rows w.2.1 (hStrike_f (by decide) (by decide)) (hStrike_f (by decide) (by decide)) (hStrike_f (by decide) (by decide)) (hStrike_f (by decide) (by decide)) (hStrike_f (by decide) (by decide))) r'
        · rw [head, s190_51, if_neg (fun z => c0 (Or.inl z)), if_neg (fun z => c0 (Or.inr z)), if_pos c2, ep]
          simp only [s190_108, s190_110, s190_112, s190_115, s190_116, s190_119, s190_121, s190_124, s190_125, et, jcall_eq, Option.toList_some, Option.toList_none, List.cons_append, List.nil_append]
          rw [if_neg (jn_ne4 (by omega))]
      · rw [if_neg e] at eD
        refine ⟨M, l, iEq_rfl M, ?_, jE_of (fun v σ' => ?_)⟩
        · rw [eD]; exact ⟨hOk_K w.1 (by omega), w.2⟩
        · rw [head, s190_51, if_neg (fun z => c0 (Or.inl z)), if_neg (fun z => c0 (Or.inr z)), if_pos c2]
          simp only [s190_108, s190_110, s190_112, s190_124, s190_125]
          rw [if_pos (Classical.not_not.mp e)]
    · rw [if_neg c2] at hp
      by_cases c3 : (jn r % 8).toInt = 3
      · rw [if_pos c3] at hp
        rw [hp, sub0]
        have eD : cDraw h (jn r) = if dH h (jn r) = dG h (jn r) then h else hTrade h (dH h (jn r)) (dG h (jn r)) := by
          unfold cDraw
          rw [if_neg c0, if_neg c2, if_pos c3]
        by_cases e : dH h (jn r) = dG h (jn r)
        · rw [if_pos e] at eD
          refine ⟨M, l, iEq_rfl M, ?_, jE_of (fun v σ' => ?_)⟩
          · rw [eD]; exact ⟨hOk_K w.1 (by omega), w.2⟩
          · rw [head, s190_51, if_neg (fun z => c0 (Or.inl z)), if_neg (fun z => c0 (Or.inr z)), if_neg c2, if_pos c3]
            simp only [s190_126, s190_127, s190_129, s190_143, s190_144]
            rw [if_pos e]
        · rw [if_neg e] at eD
          obtain ⟨c', r', et⟩ := r166 (d := d + 10) (n := n) w hH hG
          rw [← eH, ← eG] at r' et
          refine ⟨mC M (60, 0) c', l, iEq_60, ?_, jE_of (fun v σ' => ?_)⟩
          · rw [eD]
            have hk : ∀ r, r ≠ 9 → hTrade h (dH h (jn r)) (dG h (jn r)) r = h r := fun r hr => by unfold hTrade; rw [nset_ne hr]
            refine rO_mC (Or.inr rfl) ?_ (rS_rows w.2.1 (by unfold hTrade; rw [nset_ne (by decide)]) (by unfold hTrade; rw [nset_ne (by decide)]) (by unfold hTrade; rw [nset_ne (by decide)]) (by unfold hTrade; rw [nset_ne (by decide)]) (by unfold hTrade; rw [nset_ne (by decide)])) r'
            rw [eH, eG]
            exact hOk_K (hOk_trade w.1 hH hG) (by omega)
          · rw [head, s190_51, if_neg (fun z => c0 (Or.inl z)), if_neg (fun z => c0 (Or.inr z)), if_neg c2, if_pos c3]
            simp only [s190_126, s190_127, s190_129, s190_132, s190_133, s190_134, s190_137, s190_138, s190_140, s190_143, s190_144, et, jcall_eq, Option.toList_some, Option.toList_none, List.cons_append, List.nil_append]
            rw [if_neg e]
      · rw [if_neg c3] at hp
        by_cases c4 : (jn r % 8).toInt = 4
        · rw [if_pos c4] at hp
          rw [hp, sub0]
          have eD : cDraw h (jn r) = if hCanEng h (dH h (jn r)) then hEng h (dH h (jn r)) else h := by
            unfold cDraw
            rw [if_neg c0, if_neg c2, if_neg c3, if_pos c4]
          have q167 := fun (v : Option jV) (σ' : jS) => r167 (d := d + 11) (n := n) (v := v) (σ' := σ') w hH
          rw [← eH] at q167
          by_cases e : hCanEng h (dH h (jn r))
          · rw [if_pos e] at eD
            obtain ⟨c', r', et⟩ := r168 (d := d + 11) (n := n) w hH
            rw [← eH] at r' et
            refine ⟨mC M (60, 0) c', l, iEq_60, ?_, jE_of (fun v σ' => ?_)⟩
            · rw [eD]
              refine rO_mC (Or.inr rfl) (hOk_K (hOk_eng w.1) (by omega)) (rS_rows w.2.1 ?_ ?_ ?_ ?_ ?_) r'
              all_goals (unfold hEng; rw [hSc_f (by decide), nset_ne (by decide)])
            · rw [head, s190_51, if_neg (fun z => c0 (Or.inl z)), if_neg (fun z => c0 (Or.inr z)), if_neg c2, if_neg c3, if_pos c4]
              simp only [s190_145, s190_146, s190_149, s190_150, s190_153, s190_156, s190_157, s190_160, s190_161, s190_164, s190_165, q167, et, jcall_eq, Option.toList_some, Option.toList_none, List.cons_append, List.nil_append, jb_0, jifN]
              rw [if_pos e]
          · rw [if_neg e] at eD
            refine ⟨M, l, iEq_rfl M, ?_, jE_of (fun v σ' => ?_)⟩
            · rw [eD]; exact ⟨hOk_K w.1 (by omega), w.2⟩
            · rw [head, s190_51, if_neg (fun z => c0 (Or.inl z)), if_neg (fun z => c0 (Or.inr z)), if_neg c2, if_neg c3, if_pos c4]
              simp only [s190_145, s190_146, s190_149, s190_150, s190_153, s190_164, s190_165, q167, jcall_eq, Option.toList_some, Option.toList_none, List.cons_append, List.nil_append, jb_0, jifN]
              rw [if_neg e]
        · rw [if_neg c4] at hp
          rw [hp, sub0]
          have eD : cDraw h (jn r) = if hCanOpen h then hSettle (nUnfold h 0) h else h := by
            unfold cDraw
            rw [if_neg c0, if_neg c2, if_neg c3, if_neg c4]
          by_cases e : hCanOpen h
          · rw [if_pos e] at eD
            have hl : 0 < l := by
              have := e.1
              rw [w.1.2.1.2.2] at this
              exact (jn_lt (k := 0) (by omega) (by omega)).mp this
            obtain ⟨c', g, r', et⟩ := r158 (d := d + 6) (n := n) w hK hl hy
            refine ⟨sG (mC M (60, 0) c') g, l, iEq_tr iEq_60 iEq_sG, ?_, jE_of (fun v σ' => ?_)⟩
            · rw [eD]
              refine rO_sG g (rO_mC (Or.inr rfl) (hOk_settle w.1) (rS_rows w.2.1 ?_ ?_ ?_ ?_ ?_) r')
              all_goals rw [hSettle_row (by decide) (by decide), hBindAll_f (by decide), if_c]
            · rw [head, s190_51, if_neg (fun z => c0 (Or.inl z)), if_neg (fun z => c0 (Or.inr z)), if_neg c2, if_neg c3, if_neg c4]
              simp only [s190_166, s190_167, s190_168, s190_171, s190_174, s190_177, s190_178, s190_179, s190_182, s190_185, s190_188, s190_189, s190_192, s190_193, r157 w, et, jcall_eq, Option.toList_some, Option.toList_none, List.cons_append, List.nil_append, jb_0, jifN]
              rw [if_pos e]
              by_cases c : hPass h
              · rw [if_pos c, jb_t ⟨e, c⟩]
              · rw [if_neg c, jb_f (fun z => c z.2)]
          · rw [if_neg e] at eD
            refine ⟨M, l, iEq_rfl M, ?_, jE_of (fun v σ' => ?_)⟩
            · rw [eD]; exact ⟨hOk_K w.1 (by omega), w.2⟩
            · rw [head, s190_51, if_neg (fun z => c0 (Or.inl z)), if_neg (fun z => c0 (Or.inr z)), if_neg c2, if_neg c3, if_neg c4]
              simp only [s190_166, s190_167, s190_168, s190_171, s190_174, s190_192, s190_193, r157 w, jcall_eq, Option.toList_some, Option.toList_none, List.cons_append, List.nil_append, jb_0, jifN]
              rw [if_neg e, jb_f (fun z => e z.1)]
end JRK2
