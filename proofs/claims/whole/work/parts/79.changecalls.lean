/-! the calls that change something, class and reference -/
def bdK (k : Nat) (a : jA) (s : Nat) : Prop := ¬ (k = 12 ∧ a.1 < 10 ∧ a.2 = 1) ∧ ¬ (k = 1 ∧ a.2 = 1) ∧ k ≠ 2 ∧ k ≠ 10 ∧ ¬ (k = 12 ∧ a.1 = 55) ∧ ¬ (k = 11 ∧ (s = 17 ∨ s = 19))
def f2s (R base row k : Nat) (a : jA) (s : Nat) : Prop := (k = 12 ∧ a.1 < 10 ∧ base ≤ a.2 ∧ a.2 < base + R) ∨ (k = 1 ∧ a.1 = 0 ∧ base ≤ a.2 ∧ a.2 < base + R) ∨ fS k a s ∨ (k = 12 ∧ a.1 = row ∧ a.2 = 0)
section JCC
variable {d n K K' T t a b l l' p c q e m L f i R base u row p' c' : Nat} {M M1 M2 M' N : jM} {x y z : Int32} {g h h' nv : jH} {r : Nat → Int32}
theorem ok_end {mc mr : Nat} {al ml : List (Option jV)} {v : Int32} (ht : t ≤ T) (j1 : jE (d + 20) mc 0 al [] (n, ([], M)) (some (.inl v)) (n, ([], M1))) (j2 : jE (d + 20) mr 0 ml [] (n, ([], M1)) (some (.inl v)) (n, ([], M2))) (w : Inv (K + 7) (t + 1) a b l p c q e m L M2) (h1 : s17 M M1) (h2 : s17 M M2) : okC d n K T M mc mr al ml :=
  ⟨M1, M2, v, j1, j2, ⟨t + 1, a, b, l, p, c, q, e, m, L, by omega, w⟩, h1, h2⟩
theorem ok_same {mc mr : Nat} {al ml : List (Option jV)} {v : Int32} (S : StI K T M) (j1 : jE (d + 20) mc 0 al [] (n, ([], M)) (some (.inl v)) (n, ([], M))) (j2 : jE (d + 20) mr 0 ml [] (n, ([], M)) (some (.inl v)) (n, ([], M))) : okC d n K T M mc mr al ml :=
  ⟨M, M, v, j1, j2, St_K S (by omega) (by omega), s17_r, s17_r⟩
theorem em (M : jM) (p c : Nat) (h' : jH) : sH (rmM M p c) 1 h' = cgM M p c (gN (rmM M p c) 0) h' := by
  unfold cgM
  rw [sN_self]
theorem ok_add (S : StI K T M) : okC d n K T M 98 169 (lw [.inl x]) (lm [.inl x]) := by
  have S0 := S
  obtain ⟨t, a, b, l, p, c, q, e, m, L, ht, w⟩ := S
  have w1 := w.1.1.1
  by_cases h1 : lwIsSc (gH M 1) x
  · by_cases h2 : hBilled (gH M 1) x
    · exact ok_same S0 (jE_of (fun _ _ => l98_on h1 h2)) (jE_of (fun _ _ => m169_on (Inv_rO w) h1 h2))
    · obtain ⟨s, hs, es⟩ := (lw_scene w.1.1).mp h1
      have j1 := jE_of (fun v σ' => l98_yes (d := d) (n := n) (v := v) (σ' := σ') w.1.1 h1 h2 w.2.1.1.2.1.1 w.2.1.1.2.1.2 w.2.1.1.1.1 w.2.1.1.1.2)
      rw [em] at j1
      obtain ⟨r1, r2, r3⟩ := rm_rO (nv := gN (rmM M p c) 0) (h' := hMount (gH M 1) x l) w
      obtain ⟨c', d', j2⟩ := m169_yes (d := d) (n := n) r1 h1 h2 w.2.1.1.1.2 r2
      have hm : hOk K a b (l + 1) (hMount (gH M 1) x l) := by
        rw [es] at h2 ⊢
        exact hOk_mount w.1.1 hs (Nat.le_refl l) h2
      have ea : hOnBill (hMount (gH M 1) x l) x = jn l := by
        refine hOk_at hm (Nat.lt_succ_self l) ?_
        unfold hMount
        rw [hSc_f (by decide), nset_at, hOk_B w.1.1]
        unfold rins
        rw [if_neg (by omega), if_pos rfl]
      rw [ea] at j1
      exact ok_end ht j1 (jE_of j2) (Inv_change w (by omega) (hOk_K hm (by omega)) d' (fun f hf => by
        unfold hMount
        rw [hSc_f (by omega), nset_ne (by omega)])) rm_17 (s17_tr rm_17 kn_17)
  · exact ok_same S0 (jE_of (fun _ _ => l98_no h1)) (jE_of (fun _ _ => m169_no (Inv_rO w) h1))
theorem ok_cut (S : StI K T M) : okC d n K T M 99 170 (lw [.inl x]) (lm [.inl x] ++ [none]) := by
  have S0 := S
  obtain ⟨t, a, b, l, p, c, q, e, m, L, ht, w⟩ := S
  by_cases h1 : lwIsSc (gH M 1) x
  · by_cases h2 : hBilled (gH M 1) x
    · have j1 := jE_of (fun v σ' => l99_yes (d := d) (n := n) (v := v) (σ' := σ') w.1.1 h1 h2 w.2.1.1.2.1.1 w.2.1.1.2.1.2 w.2.1.1.1.1 w.2.1.1.1.2)
      rw [em] at j1
      obtain ⟨r1, r2, r3⟩ := rm_rO (nv := gN (rmM M p c) 0) (h' := hStrike (gH M 1) x) w
      obtain ⟨c', d', j2⟩ := m170_yes (d := d) (n := n) r1 h1 h2 w.2.1.1.1.2 r2
      exact ok_end ht j1 (jE_of j2) (Inv_change w (by omega) (hOk_K (hOk_strike w.1.1 h2) (by omega)) d' (fun f hf => by
        unfold hStrike
        rw [hSc_f (by omega), nset_ne (by omega)])) rm_17 (s17_tr rm_17 kn_17)
    · exact ok_same S0 (jE_of (fun _ _ => l99_off h1 h2)) (jE_of (fun _ _ => m170_off (Inv_rO w) h1 h2))
  · exact ok_same S0 (jE_of (fun _ _ => l99_no h1)) (jE_of (fun _ _ => m170_no (Inv_rO w) h1))
theorem nCarry_settle : nCarry (hSettle nv h) nv = nCarry h nv := by
  unfold nCarry
  rw [hSettle_10, hSettle_10, if_neg (by decide), if_neg (by decide), if_neg (fun z => absurd z.1 (by decide)), if_neg (by decide), if_neg (by decide), if_neg (fun z => absurd z.1 (by decide))]
theorem ok_play (S : StI K T M) (hK : K ≤ 900000) : okC d n K T M 100 171 (lw []) (lm []) := by
  have S0 := S
  obtain ⟨t, a, b, l, p, c, q, e, m, L, ht, w⟩ := S
  by_cases h1 : hCanOpen (gH M 1)
  · have j1 := jE_of (fun v σ' => l100_yes (d := d) (n := n) (v := v) (σ' := σ') h1 w.2.1.1.2.1.1 w.2.1.1.2.1.2 w.2.1.1.1.1 w.2.1.1.1.2)
    obtain ⟨r1, r2, r3⟩ := rm_rO (nv := nUnfold (gH M 1) 0) (h' := hSettle (nUnfold (gH M 1) 0) (gH M 1)) w
    obtain ⟨c', g, d', j2⟩ := m171_yes (d := d) (n := n) r1 (by omega) r3 h1 w.2.1.1.1.2 r2
    have ea : jb (nCarry (hSettle (nUnfold (gH M 1) 0) (gH M 1)) (nUnfold (gH M 1) 0)) = jb (hPass (gH M 1)) := by
      have e := nCarry_settle (nv := nUnfold (gH M 1) 0) (h := gH M 1)
      unfold jb
      by_cases z : hPass (gH M 1)
      · rw [if_pos z, if_pos (by rw [e]; exact z)]
      · rw [if_neg z, if_neg (by rw [e]; exact z)]
    rw [ea] at j1
    refine ok_end ht j1 (jE_of j2) (Inv_eq iEq_sG (Inv_change w (by omega) (hOk_settle w.1.1) d' (fun f hf => ?_))) rm_17 (s17_tr rm_17 (s17_tr kn_17 (s17_i iEq_sG)))
    rw [hSettle_row (by omega) (by omega), hBindAll_f (by omega), if_c]
  · exact ok_same S0 (jE_of (fun _ _ => l100_no h1)) (jE_of (fun _ _ => m171_no (Inv_rO w) h1))
theorem ok_swap (S : StI K T M) : okC d n K T M 101 172 (lw [.inl x, .inl y]) (lm [.inl x, .inl y]) := by
  have S0 := S
  obtain ⟨t, a, b, l, p, c, q, e, m, L, ht, w⟩ := S
  by_cases h1 : lwIsSe (gH M 1) x ∧ lwIsSe (gH M 1) y ∧ x ≠ y
  · have j1 := jE_of (fun v σ' => l101_yes (d := d) (n := n) (v := v) (σ' := σ') h1 w.2.1.1.2.1.1 w.2.1.1.2.1.2 w.2.1.1.1.1 w.2.1.1.1.2)
    rw [em] at j1
    obtain ⟨r1, r2, r3⟩ := rm_rO (nv := gN (rmM M p c) 0) (h' := hTrade (gH M 1) x y) w
    obtain ⟨c', d', j2⟩ := m172_yes (d := d) (n := n) r1 h1 w.2.1.1.1.2 r2
    obtain ⟨s, hs, es⟩ := (lw_seat w.1.1).mp h1.1
    obtain ⟨s', hs', es'⟩ := (lw_seat w.1.1).mp h1.2.1
    have hm : hOk K a b l (hTrade (gH M 1) x y) := by
      rw [es, es']
      exact hOk_trade w.1.1 hs hs'
    exact ok_end ht j1 (jE_of j2) (Inv_change w (by omega) (hOk_K hm (by omega)) d' (fun f hf => by
      unfold hTrade
      rw [nset_ne (by omega)])) rm_17 (s17_tr rm_17 kn_17)
  · exact ok_same S0 (jE_of (fun _ _ => l101_no h1)) (jE_of (fun _ _ => m172_no (Inv_rO w) h1))
theorem ok_hire (S : StI K T M) : okC d n K T M 102 173 (lw [.inl x]) (lm [.inl x]) := by
  have S0 := S
  obtain ⟨t, a, b, l, p, c, q, e, m, L, ht, w⟩ := S
  by_cases h1 : lwIsSe (gH M 1) x
  · by_cases h2 : hCanEng (gH M 1) x
    · have j1 := jE_of (fun v σ' => l102_yes (d := d) (n := n) (v := v) (σ' := σ') h1 h2 w.2.1.1.2.1.1 w.2.1.1.2.1.2 w.2.1.1.1.1 w.2.1.1.1.2)
      rw [em] at j1
      obtain ⟨r1, r2, r3⟩ := rm_rO (nv := gN (rmM M p c) 0) (h' := hEng (gH M 1) x) w
      obtain ⟨c', d', j2⟩ := m173_yes (d := d) (n := n) r1 h1 h2 w.2.1.1.1.2 r2
      exact ok_end ht j1 (jE_of j2) (Inv_change w (by omega) (hOk_K (hOk_eng w.1.1) (by omega)) d' (fun f hf => by
        unfold hEng
        rw [hSc_f (by omega), nset_ne (by omega)])) rm_17 (s17_tr rm_17 kn_17)
    · exact ok_same S0 (jE_of (fun _ _ => l102_cant h1 h2)) (jE_of (fun _ _ => m173_cant (Inv_rO w) h1 h2))
  · exact ok_same S0 (jE_of (fun _ _ => l102_no h1)) (jE_of (fun _ _ => m173_no (Inv_rO w) h1))
theorem I2_sub (w : I2 K a b R base u row p c M) (hab : a ≤ 7 ∧ b ≤ 7) (hR : 0 < R) (x : eqO (f2s R base row) M M2) (hp' : p' < R) (hc' : c' ≤ R) (e1 : M2 2 (0, u) 1 = jn p') (e2 : M2 2 (0, u) 2 = jn c') (hr : ∀ j, j < c' → j < c ∧ ringAt R base p' c' j = ringAt R base p c j) : I2 K a b R base u row p' c' M2 := by
  refine ⟨⟨hp', hc'⟩, ⟨e1, e2⟩, fun j hj => ?_⟩
  obtain ⟨h1, h2⟩ := hr j hj
  obtain ⟨l', y1, y2, y3⟩ := w.2.2 j h1
  have h0 := ringAt_le (R := R) (base := base) (p := p) (c := c) (j := j) hR
  have eg : gH M2 (ringAt R base p c j) = gH M (ringAt R base p c j) := eqO_gH x (fun f s hf => Or.inl ⟨rfl, hf, h0⟩) (fun s => Or.inr (Or.inl ⟨rfl, rfl, h0⟩))
  have er : M2 12 (row, 0) = M 12 (row, 0) := funext fun s => x 12 (row, 0) s (Or.inr (Or.inr (Or.inr ⟨rfl, rfl, rfl⟩)))
  rw [h2, eg, er]
  exact ⟨l', y1, rS_eq (eqO_le x (fun _ _ _ z => Or.inr (Or.inr (Or.inl z)))) hab.1 hab.2 y2, y3⟩
theorem Inv_back (w : Inv K t a b l p c q e m L M) {q' e' : Nat} (x : eqO bdK M M2) (hg : hEq (gH M2 1) h) (hOkh : hOk K a b l' h) (hSh : rS a b M h) (hDh : rD a b l' (M2 12 (55, 0)) h) (i2 : I2 K a b 8 2 0 56 p' c' M2) (s17 : M2 11 (0, 0) 17 = jn c') (i3 : I2 K a b 2 10 1 58 q' e' M2) (s19 : M2 11 (0, 0) 19 = jn e') (s10 : M2 10 (0, 0) 10 = jn (t + 1)) : Inv K (t + 1) a b l' p' c' q' e' m L M2 := by
  have w1 := w.1.1.1
  have w2 := hOkh.1
  exact ⟨⟨hEq_hOk hg hOkh, hEq_rS hg (by omega) (by omega) (rS_eq (eqO_le x (fun k a s z => by unfold fS at z; unfold bdK; omega)) (by omega) (by omega) hSh), hEq_rD hg (by omega) (by omega) (by omega) hDh⟩, ⟨i2, s17⟩, ⟨i3, s19⟩, I4_eq (eqO_le x (fun k a s z => by unfold f4 at z; unfold bdK; omega)) w.2.2.2.1, I5_eq (eqO_le x (fun k a s z => by unfold f5 at z; unfold bdK; omega)) w.2.2.2.2.1, I6_bump w.2.2.2.2.2 s10 (gN_eq x (fun f s h1 h2 => by unfold bdK; simp; omega) (by unfold bdK; simp)) (x 11 (0, 0) 25 (by unfold bdK; simp)) (x 7 (0, 0) 6 (by unfold bdK; simp)) (x 3 (0, 0) 4 (by unfold bdK; simp))⟩
theorem ok_undo (S : StI K T M) : okC d n K T M 103 174 (lw []) (lm [] ++ [none]) := by
  have S0 := S
  obtain ⟨t, a, b, l, p, c, q, e, m, L, ht, w⟩ := S
  have w1 := w.1.1.1
  have wr := w.2.1.1
  rcases Nat.eq_zero_or_pos c with hc | hc
  · subst hc
    exact ok_same S0 (jE_of (fun _ _ => l103_no wr.2.1.2)) (jE_of (fun _ _ => m174_no w.2.1.2))
  · obtain ⟨c0, rfl⟩ : ∃ c0, c = c0 + 1 := ⟨c - 1, by omega⟩
    have hp : hsLast 0 p = if 0 < p then p - 1 else 7 := rfl
    have hpv : hsLast 0 p = (p + 7) % 8 := by
      rw [hp]
      have := wr.1.1
      by_cases z : 0 < p
      · rw [if_pos z]; omega
      · rw [if_neg z]; omega
    have wr1 := wr.1
    have j1 := jE_of (fun v σ' => l103_yes (d := d) (n := n) (v := v) (σ' := σ') wr.2.1.1 wr.2.1.2 wr.1.1 (show c0 ≤ 8 by omega))
    have u17 : udM M p c0 11 (0, 0) 17 = jn (c0 + 1) := by
      unfold udM
      rw [jUp_k (by decide), jUp_k (by decide), jUp_k (by decide), sH_k (by decide) (by decide)]
      exact w.2.1.2
    have j2 := jE_of (fun v σ' => m174_yes (d := d) (n := n) (v := v) (σ' := σ') (show c0 < 8 by omega) u17)
    obtain ⟨l', y1, y2, y3⟩ := wr.2.2 c0 (by omega)
    have er : ringAt 8 2 p (c0 + 1) c0 = 2 + hsLast 0 p := by rw [hpv]; unfold ringAt; omega
    rw [er] at y1 y2 y3
    have yl := y1.1
    have x1 : eqO bdK M (udM M p c0) := by
      unfold udM
      refine eqO_tr (eqO_tr (eqO_tr (eqO_sH (fun f s hf => ?_) (fun s => ?_)) (eqO_up ?_)) (eqO_up ?_)) (eqO_up ?_) <;> unfold bdK <;> simp <;> omega
    have x : eqO bdK M (unM (udM M p c0) c0) := by
      refine eqO_tr x1 ?_
      unfold unM
      refine eqO_tr (eqO_up ?_) (eqO_mC (fun s => Or.inl ?_)) <;> unfold bdK <;> simp
    have gg : ∀ i, gH (unM (udM M p c0) c0) i = gH (udM M p c0) i := by
      intro i
      unfold unM
      rw [gH_mC (by decide), gH_up (by decide) (by decide)]
    have k2 : ∀ k, k ≠ 11 → k ≠ 12 → unM (udM M p c0) c0 k = udM M p c0 k := by
      intro k h1 h2
      unfold unM
      rw [mC_k h2, jUp_k h1]
    have r56 : udM M p c0 12 (56, 0) = M 12 (56, 0) := funext fun s => x1 12 (56, 0) s (by unfold bdK; simp)
    refine ok_end ht j1 j2 (Inv_K (Inv_back w x (h := gH M (2 + hsLast 0 p)) ?_ y1 y2 ?_ (I2_sub (p' := hsLast 0 p) (c' := c0) wr ⟨by omega, by omega⟩ (by omega) (eqO_le x (fun k a s z => by unfold f2s fS at z; unfold bdK; omega)) (by rw [hpv]; omega) (by omega) ?_ ?_ (fun j hj => ⟨by omega, by rw [hpv]; unfold ringAt; omega⟩)) ?_ (I2_sub (p' := q) (c' := e) w.2.2.1.1 ⟨by omega, by omega⟩ (by omega) (eqO_le x (fun k a s z => by unfold f2s fS at z; unfold bdK; omega)) w.2.2.1.1.1.1 w.2.2.1.1.1.2 ?_ ?_ (fun j hj => ⟨hj, rfl⟩)) ?_ ?_) (by omega)) (s17_e x1 (fun _ _ => by unfold bdK; simp)) (s17_e x (fun _ _ => by unfold bdK; simp))
    · rw [gg]
      unfold udM
      rw [gH_up (by decide) (by decide), gH_up (by decide) (by decide), gH_up (by decide) (by decide)]
      exact hEq_gH _ _ _
    · unfold unM
      rw [mC_at, r56]
      exact rD_ext (by omega) (by omega) (by omega) (fun j hj => if_pos hj) y3
    · rw [k2 2 (by decide) (by decide)]
      unfold udM
      rw [jUp_k (by decide), jUp_s (by decide), jUp_at]
    · rw [k2 2 (by decide) (by decide)]
      unfold udM
      rw [jUp_k (by decide), jUp_at]
    · unfold unM
      rw [mC_k (by decide), jUp_at]
    · rw [k2 2 (by decide) (by decide)]
      unfold udM
      rw [jUp_k (by decide), jUp_a (by decide), jUp_a (by decide), sH_k (by decide) (by decide)]
      exact w.2.2.1.1.2.1.1
    · rw [k2 2 (by decide) (by decide)]
      unfold udM
      rw [jUp_k (by decide), jUp_a (by decide), jUp_a (by decide), sH_k (by decide) (by decide)]
      exact w.2.2.1.1.2.1.2
    · unfold unM
      rw [mC_k (by decide), jUp_s (by decide)]
      unfold udM
      rw [jUp_k (by decide), jUp_k (by decide), jUp_k (by decide), sH_k (by decide) (by decide)]
      exact w.2.2.1.2
    · rw [k2 10 (by decide) (by decide)]
      unfold udM
      rw [jUp_at, w.2.2.2.2.2.1.1, jn_1]
theorem ok_back (S : StI K T M) : okC d n K T M 116 193 (lw []) (lm [] ++ [none]) := by
  have S0 := S
  obtain ⟨t, a, b, l, p, c, q, e, m, L, ht, w⟩ := S
  have w1 := w.1.1.1
  have wr := w.2.2.1.1
  rcases Nat.eq_zero_or_pos e with hc | hc
  · subst hc
    exact ok_same S0 (jE_of (fun _ _ => l116_no wr.2.1.2)) (jE_of (fun _ _ => m193_no w.2.2.1.2))
  · obtain ⟨c0, rfl⟩ : ∃ c0, e = c0 + 1 := ⟨e - 1, by omega⟩
    have hp : hsLast 1 q = if 0 < q then q - 1 else 1 := rfl
    have hpv : hsLast 1 q = (q + 1) % 2 := by
      rw [hp]
      have := wr.1.1
      by_cases z : 0 < q
      · rw [if_pos z]; omega
      · rw [if_neg z]; omega
    have wr1 := wr.1
    have j1 := jE_of (fun v σ' => l116_yes (d := d) (n := n) (v := v) (σ' := σ') wr.2.1.1 wr.2.1.2 wr.1.1 (show c0 ≤ 2 by omega))
    have u19 : bkM M q c0 11 (0, 0) 19 = jn (c0 + 1) := by
      unfold bkM
      rw [jUp_k (by decide), jUp_k (by decide), jUp_k (by decide), jUp_k (by decide), sH_k (by decide) (by decide)]
      exact w.2.2.1.2
    have j2 := jE_of (fun v σ' => m193_yes (d := d) (n := n) (v := v) (σ' := σ') (show c0 < 2 by omega) u19)
    obtain ⟨l', y1, y2, y3⟩ := wr.2.2 c0 (by omega)
    have er : ringAt 2 10 q (c0 + 1) c0 = 10 + hsLast 1 q := by rw [hpv]; unfold ringAt; omega
    rw [er] at y1 y2 y3
    have yl := y1.1
    have x1 : eqO bdK M (bkM M q c0) := by
      unfold bkM
      refine eqO_tr (eqO_tr (eqO_tr (eqO_tr (eqO_sH (fun f s hf => ?_) (fun s => ?_)) (eqO_up ?_)) (eqO_up ?_)) (eqO_up ?_)) (eqO_up ?_) <;> unfold bdK <;> simp <;> omega
    have x : eqO bdK M (bkR (bkM M q c0) c0) := by
      refine eqO_tr x1 ?_
      unfold bkR
      refine eqO_tr (eqO_tr (eqO_up ?_) (eqO_mC (fun s => Or.inl ?_))) (eqO_up ?_) <;> unfold bdK <;> simp
    have gg : ∀ i, gH (bkR (bkM M q c0) c0) i = gH (bkM M q c0) i := by
      intro i
      unfold bkR
      rw [gH_up (by decide) (by decide), gH_mC (by decide), gH_up (by decide) (by decide)]
    have k2 : ∀ k, k ≠ 11 → k ≠ 12 → bkR (bkM M q c0) c0 k = bkM M q c0 k := by
      intro k h1 h2
      unfold bkR
      rw [jUp_k h1, mC_k h2, jUp_k h1]
    have r58 : bkM M q c0 12 (58, 0) = M 12 (58, 0) := funext fun s => x1 12 (58, 0) s (by unfold bdK; simp)
    refine ok_end ht j1 j2 (Inv_K (Inv_back w x (h := gH M (10 + hsLast 1 q)) ?_ y1 y2 ?_ (I2_sub (p' := p) (c' := 0) w.2.1.1 ⟨by omega, by omega⟩ (by omega) (eqO_le x (fun k a s z => by unfold f2s fS at z; unfold bdK; omega)) w.2.1.1.1.1 (by omega) ?_ ?_ (fun j hj => absurd hj (by omega))) ?_ (I2_sub (p' := hsLast 1 q) (c' := c0) wr ⟨by omega, by omega⟩ (by omega) (eqO_le x (fun k a s z => by unfold f2s fS at z; unfold bdK; omega)) (by rw [hpv]; omega) (by omega) ?_ ?_ (fun j hj => ⟨by omega, by rw [hpv]; unfold ringAt; omega⟩)) ?_ ?_) (by omega)) (s17_e x1 (fun _ _ => by unfold bdK; simp)) (s17_e x (fun _ _ => by unfold bdK; simp))
    · rw [gg]
      unfold bkM
      rw [gH_up (by decide) (by decide), gH_up (by decide) (by decide), gH_up (by decide) (by decide), gH_up (by decide) (by decide)]
      exact hEq_gH _ _ _
    · unfold bkR
      rw [jUp_k (by decide), mC_at, r58]
      exact rD_ext (by omega) (by omega) (by omega) (fun j hj => if_pos hj) y3
    · rw [k2 2 (by decide) (by decide)]
      unfold bkM
      rw [jUp_k (by decide), jUp_s (by decide), jUp_a (by decide), jUp_a (by decide), sH_k (by decide) (by decide)]
      exact w.2.1.1.2.1.1
    · rw [k2 2 (by decide) (by decide)]
      unfold bkM
      rw [jUp_k (by decide), jUp_at]
      rfl
    · unfold bkR
      rw [jUp_at]
      rfl
    · rw [k2 2 (by decide) (by decide)]
      unfold bkM
      rw [jUp_k (by decide), jUp_a (by decide), jUp_s (by decide), jUp_at]
    · rw [k2 2 (by decide) (by decide)]
      unfold bkM
      rw [jUp_k (by decide), jUp_a (by decide), jUp_at]
    · unfold bkR
      rw [jUp_s (by decide), mC_k (by decide), jUp_at]
    · rw [k2 10 (by decide) (by decide)]
      unfold bkM
      rw [jUp_at, w.2.2.2.2.2.1.1, jn_1]
end JCC
