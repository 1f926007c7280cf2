/-! keep and lay, class and reference -/
def kpK (q : Nat) (k : Nat) (a : jA) (s : Nat) : Prop := ¬ (k = 12 ∧ a.1 < 10 ∧ a.2 = 10 + q) ∧ ¬ (k = 1 ∧ a.2 = 10 + q) ∧ ¬ (k = 2 ∧ a.2 = 1) ∧ ¬ (k = 12 ∧ a.1 = 58) ∧ ¬ (k = 11 ∧ s = 19)
/-- all but what lay changes -/
def laK (k : Nat) (a : jA) (s : Nat) : Prop := lyK k a s ∧ ¬ (k = 12 ∧ a.1 < 10 ∧ a.2 = 1) ∧ ¬ (k = 1 ∧ a.2 = 1) ∧ k ≠ 2 ∧ ¬ (k = 8 ∧ s = 2) ∧ k ≠ 10
section JKL
variable {d n K K' T t a b l l' p c q e m L f i R base u row p' c' : Nat} {M M1 M2 M' N : jM} {x y z : Int32} {g h h' nv : jH} {r : Nat → Int32}
theorem ok_keep (S : StI K T M) : okC d n K T M 115 192 (lw []) (lm [] ++ [none]) := by
  have S0 := S
  obtain ⟨t, a, b, l, p, c, q, e, m, L, ht, w⟩ := S
  have w1 := w.1.1.1
  have wr := w.2.2.1.1
  have wr1 := wr.1
  by_cases h2 : e = 2
  · subst h2
    exact ok_same S0 (jE_of (fun _ _ => l115_no wr.2.1.2)) (jE_of (fun _ _ => m192_no w.2.2.1.2))
  · have he : e < 2 := by omega
    have hp : hsNext 1 q = if q + 1 < 2 then q + 1 else 0 := rfl
    have hpv : hsNext 1 q = (q + 1) % 2 := by
      rw [hp]
      by_cases z : q + 1 < 2
      · rw [if_pos z]; omega
      · rw [if_neg z]; omega
    have j1 := jE_of (fun v σ' => l115_yes (d := d) (n := n) (v := v) (σ' := σ') wr.2.1.1 wr.2.1.2 wr.1.1 he)
    rw [show min 2 (e + 1) = e + 1 by omega] at j1
    have k19 : kpM M q e 11 (0, 0) 19 = jn e := by
      unfold kpM
      rw [jUp_k (by decide), jUp_k (by decide), sH_k (by decide) (by decide)]
      exact w.2.2.1.2
    have j2 := jE_of (fun v σ' => m192_yes (d := d) (n := n) (v := v) (σ' := σ') he k19)
    have x1 : eqO (kpK q) M (kpM M q e) := by
      unfold kpM
      refine eqO_tr (eqO_tr (eqO_sH (fun f s hf => ?_) (fun s => ?_)) (eqO_up ?_)) (eqO_up ?_) <;> unfold kpK <;> simp <;> omega
    have x : eqO (kpK q) M (kpR (kpM M q e) e) := by
      refine eqO_tr x1 ?_
      unfold kpR
      refine eqO_tr (eqO_mC (fun s => Or.inl ?_)) (eqO_up ?_) <;> unfold kpK <;> simp
    have gg : ∀ i, gH (kpR (kpM M q e) e) i = gH (kpM M q e) i := by
      intro i
      unfold kpR
      rw [gH_up (by decide) (by decide), gH_mC (by decide)]
    have k2 : ∀ k, k ≠ 11 → k ≠ 12 → kpR (kpM M q e) e k = kpM M q e k := by
      intro k h1 h2
      unfold kpR
      rw [jUp_k h1, mC_k h2]
    have r58 : kpM M q e 12 (58, 0) = M 12 (58, 0) := by
      unfold kpM
      rw [jUp_k (by decide), jUp_k (by decide), sH_N (by decide)]
    have r55 : kpM M q e 12 (55, 0) = M 12 (55, 0) := by
      unfold kpM
      rw [jUp_k (by decide), jUp_k (by decide), sH_N (by decide)]
    have row : kpR (kpM M q e) e 12 (58, 0) = fun j => if 39 * e ≤ j ∧ j < 39 * e + 39 then M 12 (55, 0) (j - 39 * e) else M 12 (58, 0) j := by
      unfold kpR
      rw [jUp_k (by decide), mC_at, r58, r55]
    have st : ∀ h, rS a b M h → rS a b (kpR (kpM M q e) e) h := fun h z => rS_eq (eqO_le x (fun k a s z => by unfold fS at z; unfold kpK; omega)) (by omega) (by omega) z
    have e10 : hEq (gH (kpR (kpM M q e) e) (10 + q)) (gH M 1) := by
      rw [gg]
      unfold kpM
      rw [gH_up (by decide) (by decide), gH_up (by decide) (by decide)]
      exact hEq_gH _ _ _
    have i2 : I2 K a b 2 10 1 58 (hsNext 1 q) (e + 1) (kpR (kpM M q e) e) := by
      refine ⟨⟨by rw [hpv]; omega, by omega⟩, ⟨?_, ?_⟩, fun j hj => ?_⟩
      · rw [k2 2 (by decide) (by decide)]
        unfold kpM
        rw [jUp_s (by decide), jUp_at]
      · rw [k2 2 (by decide) (by decide)]
        unfold kpM
        rw [jUp_at, show min 2 (e + 1) = e + 1 by omega]
      · rw [row, hpv]
        by_cases hje : j = e
        · have er : ringAt 2 10 ((q + 1) % 2) (e + 1) j = 10 + q := by unfold ringAt; omega
          rw [er]
          refine ⟨l, hEq_hOk e10 w.1.1, hEq_rS e10 (by omega) (by omega) (st _ w.1.2.1), hEq_rD e10 (by omega) (by omega) (by omega) (rD_ext (by omega) (by omega) (by omega) (fun k hk => ?_) w.1.2.2)⟩
          dsimp only
          rw [if_pos (by omega), show 39 * j + k - 39 * e = k by rw [hje]; omega]
        · have er : ringAt 2 10 ((q + 1) % 2) (e + 1) j = ringAt 2 10 q e j := by unfold ringAt; omega
          have en : ringAt 2 10 q e j ≠ 10 + q := by unfold ringAt; omega
          have h0 := ringAt_le (R := 2) (base := 10) (p := q) (c := e) (j := j) (by omega)
          obtain ⟨l', y1, y2, y3⟩ := wr.2.2 j (by omega)
          have yl := y1.1
          have eg : gH (kpR (kpM M q e) e) (ringAt 2 10 q e j) = gH M (ringAt 2 10 q e j) := eqO_gH x (fun f s hf => by unfold kpK; simp; omega) (fun s => by unfold kpK; simp; omega)
          rw [er, eg]
          refine ⟨l', y1, st _ y2, rD_ext (by omega) (by omega) (by omega) (fun k hk => ?_) y3⟩
          dsimp only
          rw [if_neg (by omega)]
    have wi : Inv K t a b l p c (hsNext 1 q) (e + 1) m L (kpR (kpM M q e) e) := by
      refine ⟨I1_eq (eqO_le x (fun k a s z => by unfold f1 fS at z; unfold kpK; omega)) w.1, ⟨I2_eq (eqO_le x (fun k a s z => by unfold f2 fS at z; unfold kpK; omega)) (by omega) w.2.1.1, ?_⟩, ⟨i2, ?_⟩, I4_eq (eqO_le x (fun k a s z => by unfold f4 at z; unfold kpK; omega)) w.2.2.2.1, I5_eq (eqO_le x (fun k a s z => by unfold f5 at z; unfold kpK; omega)) w.2.2.2.2.1, I6_eq (eqO_le x (fun k a s z => by unfold f6 at z; unfold kpK; omega)) w.2.2.2.2.2⟩
      · rw [x 11 (0, 0) 17 (by unfold kpK; simp)]; exact w.2.1.2
      · unfold kpR
        rw [jUp_at]
    exact ⟨_, _, _, j1, j2, ⟨t, a, b, l, p, c, hsNext 1 q, e + 1, m, L, by omega, Inv_K wi (by omega)⟩, s17_e x1 (fun _ _ => by unfold kpK; simp), s17_e x (fun _ _ => by unfold kpK; simp)⟩
theorem hTd_ok (g : hTd a b l h) (ha : 1 ≤ a) (hb : 1 ≤ b) : hOk 0 a b l h := by
  obtain ⟨g1, g2, g3, g4, g5, g6⟩ := g
  have gl := cIn_le g1.1 g4
  refine ⟨⟨ha, g1.1, hb, g1.2.1, gl⟩, ⟨g2.1, g2.2.1, g2.2.2.1⟩, g4, ⟨fun i hi => ⟨i, hi, g3.2.2 i⟩, fun i j hi hj z => ?_⟩, ⟨g5.1, g5.2.1, g5.2.2, fun i hi => ⟨0, by omega, by omega, g3.1 i⟩⟩, ⟨g6.1, g6.2.1, g6.2.2, fun i hi => ⟨0, by omega, by omega, g3.2.1 i⟩⟩⟩
  rw [g3.2.2, g3.2.2] at z
  exact jn_inj (by omega) (by omega) z
theorem ok_lay (S : StI K T M) : okC d n K T M 93 141 (lw []) (lm []) := by
  obtain ⟨t, a, b, l, p, c, q, e, m, L, ht, w⟩ := S
  have w5 := w.2.2.2.2.1
  by_cases h1 : (rdAll M L).1 = -4 ∧ ¬ (rdAll M L).2.2 10 10 = 0 ∧ ¬ (rdAll M L).2.2 10 11 = 0
  · obtain ⟨g, hg, j1⟩ := l93_yes (d := d) (n := n) w5.2.1 w5.1 h1
    have x1 : eqO laK M (opM (tX M (rdAll M L).2.2 (rdAll M L).2.1) g) := by
      refine eqO_tr (eqO_le (iEq_tX (M := M) (h := (rdAll M L).2.2) (s := (rdAll M L).2.1)) (fun k a s z => z.1.1)) ?_
      unfold opM
      refine eqO_tr (eqO_tr (eqO_tr (eqO_tr (eqO_sH (fun f s hf => ?_) (fun s => ?_)) (eqO_up ?_)) (eqO_up ?_)) (eqO_up ?_)) (eqO_up ?_) <;> unfold laK <;> simp
      exact fun _ => hf
    have w51 : I5 L (opM (tX M (rdAll M L).2.2 (rdAll M L).2.1) g) := I5_eq (eqO_le x1 (fun k a s z => by obtain ⟨a1, a2⟩ := a; unfold f5 at z; unfold laK lyK scr fS; simp only [Prod.mk.injEq] at z ⊢; omega)) w5
    have e30 : opM (tX M (rdAll M L).2.2 (rdAll M L).2.1) g 12 (30, 0) = M 12 (30, 0) := by
      unfold opM
      rw [jUp_k (by decide), jUp_k (by decide), jUp_k (by decide), jUp_k (by decide), sH_N (by decide), tX_30]
    obtain ⟨N, y1, y2⟩ := m141 (d := d) (n := n) w51 (gH M 0)
    rw [e30] at y2
    have hR : rdRun (tx (M 12 (30, 0)) L) L 200 0 (hNew (gH M 0)) = rdAll M L := rfl
    rw [hR] at y2
    obtain ⟨_, a', b', l', N2, ⟨k1, k2, k3⟩, k4, k5, k6, k7, j2⟩ := y2.resolve_left (fun z => z.1 h1)
    have ho := hEq_hOk hg (hTd_ok k1 k2 k3)
    have kl := k1.1
    rw [hg.2 11 (by omega) (by omega)] at j1
    generalize hM1 : opM (tX M (rdAll M L).2.2 (rdAll M L).2.1) g = M1 at j1 x1 w51 y1 y2 j2
    have x2 : eqO lyK M1 N2 := eqO_tr (eqO_le y1 (fun k a s z => z.1)) k7
    have x : eqO laK M N2 := eqO_tr x1 (eqO_le x2 (fun k a s z => z.1))
    have g1 : hEq (gH M1 1) g := by
      rw [← hM1]
      unfold opM
      rw [gH_up (by decide) (by decide), gH_up (by decide) (by decide), gH_up (by decide) (by decide), gH_up (by decide) (by decide)]
      exact hEq_gH _ _ _
    have g2 : gH N2 1 = gH M1 1 := eqO_gH x2 (fun f s hf => by unfold lyK scr fS; simp only [Prod.mk.injEq]; omega) (fun s => by unfold lyK scr fS; simp only [Prod.mk.injEq]; omega)
    have v2 : ∀ u s, N2 2 (0, u) s = M1 2 (0, u) s := fun u s => x2 2 (0, u) s (by unfold lyK scr fS; simp)
    have v8 : N2 8 (0, 0) 2 = M1 8 (0, 0) 2 := x2 8 (0, 0) 2 (by unfold lyK scr fS; simp)
    have v10 : N2 10 (0, 0) 10 = M1 10 (0, 0) 10 := x2 10 (0, 0) 10 (by unfold lyK scr fS; simp)
    have tk : ∀ k, k ≠ 12 → k ≠ 1 → k ≠ 9 → tX M (rdAll M L).2.2 (rdAll M L).2.1 k = M k := by
      intro k h1 h2 h3
      unfold tX
      rw [sH_k h1 h2, jUp_k h3]
    refine ok_end ht (jE_of j1) (jE_of j2) (Inv_K (K := 0) (p := p) (c := 0) (q := q) (e := 0) (m := 0) (L := L) (a := a') (b := b') (l := l') ⟨⟨?_, ?_, ?_⟩, ⟨⟨⟨w.2.1.1.1.1, by omega⟩, ⟨?_, ?_⟩, fun j hj => absurd hj (by omega)⟩, k6.1⟩, ⟨⟨⟨w.2.2.1.1.1.1, by omega⟩, ⟨?_, ?_⟩, fun j hj => absurd hj (by omega)⟩, k6.2.1⟩, ⟨by omega, ?_, k6.2.2, fun j hj => absurd hj (by omega)⟩, I5_eq (eqO_le x2 (fun k a s z => by obtain ⟨a1, a2⟩ := a; unfold f5 at z; unfold lyK scr fS; simp only [Prod.mk.injEq] at z ⊢; omega)) w51, I6_bump w.2.2.2.2.2 ?_ ?_ ?_ ?_ ?_⟩ (by omega)) (s17_e x1 (fun _ _ => by unfold laK lyK scr fS; simp)) (s17_e x (fun _ _ => by unfold laK lyK scr fS; simp))
    · rw [g2]; exact hEq_hOk g1 ho
    · rw [g2]; exact hEq_rS g1 (by omega) (by omega) (hEq_rS hg (by omega) (by omega) k4)
    · rw [g2]; exact hEq_rD g1 (by omega) (by omega) (by omega) (hEq_rD hg (by omega) (by omega) (by omega) k5)
    · rw [v2, ← hM1]
      unfold opM
      rw [jUp_k (by decide), jUp_k (by decide), jUp_a (by decide), jUp_s (by decide), sH_k (by decide) (by decide), tk 2 (by decide) (by decide) (by decide)]
      exact w.2.1.1.2.1.1
    · rw [v2, ← hM1]
      unfold opM
      rw [jUp_k (by decide), jUp_k (by decide), jUp_a (by decide), jUp_at]
      rfl
    · rw [v2, ← hM1]
      unfold opM
      rw [jUp_k (by decide), jUp_k (by decide), jUp_s (by decide), jUp_a (by decide), sH_k (by decide) (by decide), tk 2 (by decide) (by decide) (by decide)]
      exact w.2.2.1.1.2.1.1
    · rw [v2, ← hM1]
      unfold opM
      rw [jUp_k (by decide), jUp_k (by decide), jUp_at]
      rfl
    · rw [v8, ← hM1]
      unfold opM
      rw [jUp_k (by decide), jUp_at]
      rfl
    · rw [v10, ← hM1]
      unfold opM
      rw [jUp_at, tk 10 (by decide) (by decide) (by decide), w.2.2.2.2.2.1.1, jn_1]
    · exact gN_eq x (fun f s h1 h2 => by unfold laK lyK scr fS; simp only [Prod.mk.injEq]; omega) (by unfold laK lyK scr fS; simp only [Prod.mk.injEq]; omega)
    · exact x 11 (0, 0) 25 (by unfold laK lyK scr fS; simp)
    · exact x 7 (0, 0) 6 (by unfold laK lyK scr fS; simp)
    · exact x 3 (0, 0) 4 (by unfold laK lyK scr fS; simp)
  · have j1 := jE_of (fun v σ' => l93_no (d := d) (n := n) (v := v) (σ' := σ') w5.2.1 w5.1 h1)
    have w1 := Inv_eq (iEq_tX (M := M) (h := (rdAll M L).2.2) (s := (rdAll M L).2.1)) w
    obtain ⟨N, y1, y2⟩ := m141 (d := d) (n := n) w1.2.2.2.2.1 (gH M 0)
    rw [tX_30] at y2
    have hR : rdRun (tx (M 12 (30, 0)) L) L 200 0 (hNew (gH M 0)) = rdAll M L := rfl
    rw [hR] at y2
    have j2 := jE_of (y2.resolve_right (fun z => h1 z.1)).2
    exact ⟨_, _, _, j1, j2, ⟨t, a, b, l, p, c, q, e, m, L, by omega, Inv_K (Inv_eq y1 w1) (by omega)⟩, s17_i iEq_tX, s17_tr (s17_i iEq_tX) (s17_i y1)⟩
end JKL
