/-! the law comes to its end with true -/
def mSt (k : Nat) (_ : jA) (s : Nat) : Int32 := if k = 9 ∨ k = 11 then jn 93 else tS s
theorem tS_in : ∀ i, i < 93 → 32 ≤ tS i ∧ tS i ≤ 126 := by decide +kernel
theorem I5_mSt : I5 93 mSt := by
  refine ⟨by omega, rfl, rfl, fun i hi => ⟨rfl, ?_⟩⟩
  obtain ⟨h1, h2⟩ := tS_in i hi
  have h0 : 0 ≤ tS i := Int32.le_trans (by decide) h1
  have e := jx_of h0
  refine ⟨(tS i).toNatClampNeg, ?_, jx_le (k := 126) h0 (by omega) h2, e.symm⟩
  rw [← e] at h1
  exact (jn_le (k := 32) (by omega) (jx_lt _)).mp h1
theorem R0_td : hTd 5 6 5 R0.2.2 := by
  obtain ⟨N, ⟨_, h⟩, _⟩ := r134 (d := 0) (n := 0) I5_mSt (fun _ _ => 0)
  have e : rdRun (tx (mSt 12 (30, 0)) 93) 93 200 0 (hNew (fun _ _ => 0)) = R0 := rfl
  rw [e] at h
  obtain ⟨a, b, l, g, _⟩ := h.resolve_left (fun z => z R0_1.1)
  have g1 := g.1
  have ea := jn_inj (a := a) (b := 5) (by omega) (by omega) (g.2.1.1.symm.trans R0_1.2.1)
  have eb := jn_inj (a := b) (b := 6) (by omega) (by omega) (g.2.1.2.1.symm.trans R0_1.2.2.1)
  have el := jn_inj (a := l) (b := 5) (by omega) (by omega) (g.2.1.2.2.1.symm.trans R0_1.2.2.2)
  rw [ea, eb, el] at g
  exact g
section JLT
variable {L : Nat} {X Ma M N : jM} {g : jH}
def maM (X : jM) : jM := mrg Q17 X (wM [(3, ((0, 0), (4, -4))), (7, ((0, 0), (6, -4)))])
def mbM (X : jM) (g : jH) : jM := jUp (opM (tX (laT (maM X) 93) R0.2.2 R0.2.1) g) 9 (0, 0) 2 0
theorem mb_k {k : Nat} (h1 : k ≠ 1) (h2 : k ≠ 2) (h8 : k ≠ 8) (h9 : k ≠ 9) (h10 : k ≠ 10) (h12 : k ≠ 12) : mbM X g k = maM X k := by
  unfold mbM opM tX laT
  rw [jUp_k h9, jUp_k h10, jUp_k h8, jUp_k h2, jUp_k h2, sH_k h12 h1, sH_k h12 h1, jUp_k h9, jUp_k h9, mC_k h12]
theorem mb_12 {f i : Nat} (h : 10 ≤ f) (h30 : f ≠ 30) : mbM X g 12 (f, i) = maM X 12 (f, i) := by
  unfold mbM opM tX laT
  rw [jUp_k (by decide), jUp_k (by decide), jUp_k (by decide), jUp_k (by decide), jUp_k (by decide), sH_N h, sH_N h, jUp_k (by decide), jUp_k (by decide), mC_ne (fun z => h30 (Prod.mk.inj z).1)]
theorem ma_12 (a : jA) (s : Nat) : maM X 12 a s = 0 := rfl
theorem ma_z {k : Nat} {a : jA} {s : Nat} (h17 : k ≠ 17) (h3 : k ≠ 3) (h7 : k ≠ 7) : maM X k a s = 0 := by
  unfold maM mrg
  rw [if_neg (show ¬ Q17 k a = true from fun z => h17 (Nat.eq_of_beq_eq_true z))]
  show jUp (jUp (fun _ _ _ => 0) 7 (0, 0) 6 (-4)) 3 (0, 0) 4 (-4) k a s = 0
  rw [jUp_k h3, jUp_k h7]
theorem mb_zero : mrg QM (mbM X g) (wM []) = mbM X g := by
  funext k a s
  unfold mrg
  by_cases h : QM k a = true
  · rw [if_pos h]
  · rw [if_neg h]
    have h2 : k = 11 ∨ k = 13 ∨ k = 14 ∨ (k = 12 ∧ 40 ≤ a.1) := by
      unfold QM at h
      rw [Bool.not_eq_true, Bool.not_eq_false', Bool.or_eq_true, Bool.or_eq_true, Bool.or_eq_true, Bool.and_eq_true] at h
      rcases h with (h | h) | (h | ⟨h, h'⟩)
      · exact Or.inl (Nat.eq_of_beq_eq_true h)
      · exact Or.inr (Or.inl (Nat.eq_of_beq_eq_true h))
      · exact Or.inr (Or.inr (Or.inl (Nat.eq_of_beq_eq_true h)))
      · exact Or.inr (Or.inr (Or.inr ⟨Nat.eq_of_beq_eq_true h, Nat.le_of_ble_eq_true h'⟩))
    show (0 : Int32) = _
    rcases h2 with rfl | rfl | rfl | ⟨rfl, h2⟩
    · rw [mb_k (by decide) (by decide) (by decide) (by decide) (by decide) (by decide), ma_z (by decide) (by decide) (by decide)]
    · rw [mb_k (by decide) (by decide) (by decide) (by decide) (by decide) (by decide), ma_z (by decide) (by decide) (by decide)]
    · rw [mb_k (by decide) (by decide) (by decide) (by decide) (by decide) (by decide), ma_z (by decide) (by decide) (by decide)]
    · obtain ⟨f, i⟩ := a
      have h3 : 40 ≤ f := h2
      rw [mb_12 (by omega) (by omega), ma_12]
theorem mb_hEq (hg : hEq g R0.2.2) : hEq (gH (mbM X g) 1) R0.2.2 := by
  have e : hEq (gH (mbM X g) 1) g := by
    unfold mbM opM
    rw [gH_up (by decide) (by decide), gH_up (by decide) (by decide), gH_up (by decide) (by decide), gH_up (by decide) (by decide), gH_up (by decide) (by decide)]
    exact hEq_gH _ _ _
  exact ⟨fun f hf s hs => (e.1 f hf s hs).trans (hg.1 f hf s hs), fun s h1 h2 => (e.2 s h1 h2).trans (hg.2 s h1 h2)⟩
theorem mb_St (hg : hEq g R0.2.2) {N N2 : jM} (e1 : iEq (mbM X g) N) (k4 : rS 5 6 N2 R0.2.2) (k5 : rD 5 6 5 (N2 12 (55, 0)) R0.2.2) (k6 : N2 11 (0, 0) 17 = 0 ∧ N2 11 (0, 0) 19 = 0 ∧ N2 11 (0, 0) 29 = 0) (k7 : eqO lyK N N2) : StI 0 1 N2 := by
  have x : eqO lyK (mbM X g) N2 := eqO_tr (eqO_le e1 (fun k a s z => z.1)) k7
  have h1 := mb_hEq (X := X) hg
  have g2 : gH N2 1 = gH (mbM X g) 1 := eqO_gH x (fun f s hf => by unfold lyK scr fS; simp only [Prod.mk.injEq]; omega) (fun s => by unfold lyK scr fS; simp only [Prod.mk.injEq]; omega)
  have ho := hTd_ok R0_td (by omega) (by omega)
  have v2 : ∀ u s, N2 2 (0, u) s = mbM X g 2 (0, u) s := fun u s => x 2 (0, u) s (by unfold lyK scr fS; simp)
  refine ⟨1, 5, 6, 5, 0, 0, 0, 0, 0, 0, by omega, ⟨?_, ?_, ?_⟩, ⟨⟨⟨by omega, by omega⟩, ⟨?_, ?_⟩, fun j hj => absurd hj (by omega)⟩, k6.1⟩, ⟨⟨⟨by omega, by omega⟩, ⟨?_, ?_⟩, fun j hj => absurd hj (by omega)⟩, k6.2.1⟩, ⟨by omega, ?_, k6.2.2, fun j hj => absurd hj (by omega)⟩, ⟨by omega, ?_, ?_, fun i hi => absurd hi (by omega)⟩, ⟨?_, ?_, ?_⟩, Or.inl ?_, Or.inl ?_⟩
  · rw [g2]; exact hEq_hOk h1 ho
  · rw [g2]; exact hEq_rS h1 (by omega) (by omega) k4
  · rw [g2]; exact hEq_rD h1 (by omega) (by omega) (by omega) k5
  · rw [v2]
    unfold mbM opM tX laT
    rw [jUp_k (by decide), jUp_k (by decide), jUp_k (by decide), jUp_a (by decide), jUp_s (by decide), sH_k (by decide) (by decide), sH_k (by decide) (by decide), jUp_k (by decide), jUp_k (by decide), mC_k (by decide), ma_z (by decide) (by decide) (by decide)]
    rfl
  · rw [v2]
    unfold mbM opM
    rw [jUp_k (by decide), jUp_k (by decide), jUp_k (by decide), jUp_a (by decide), jUp_at]
    rfl
  · rw [v2]
    unfold mbM opM tX laT
    rw [jUp_k (by decide), jUp_k (by decide), jUp_k (by decide), jUp_s (by decide), jUp_a (by decide), sH_k (by decide) (by decide), sH_k (by decide) (by decide), jUp_k (by decide), jUp_k (by decide), mC_k (by decide), ma_z (by decide) (by decide) (by decide)]
    rfl
  · rw [v2]
    unfold mbM opM
    rw [jUp_k (by decide), jUp_k (by decide), jUp_k (by decide), jUp_at]
    rfl
  · rw [x 8 (0, 0) 2 (by unfold lyK scr fS; simp)]
    unfold mbM opM
    rw [jUp_k (by decide), jUp_k (by decide), jUp_at]
    rfl
  · rw [x 9 (0, 0) 2 (by unfold lyK scr fS; simp)]
    unfold mbM
    rw [jUp_at]
    rfl
  · rw [x 11 (0, 0) 1 (by unfold lyK scr fS; simp), mb_k (by decide) (by decide) (by decide) (by decide) (by decide) (by decide), ma_z (by decide) (by decide) (by decide)]
    rfl
  · rw [x 10 (0, 0) 10 (by unfold lyK scr fS; simp)]
    unfold mbM opM tX laT
    rw [jUp_k (by decide), jUp_at, sH_k (by decide) (by decide), jUp_k (by decide), jUp_k (by decide), mC_k (by decide), ma_z (by decide) (by decide) (by decide)]
    rfl
  · refine ⟨fun f hf s hs => ?_, ?_⟩
    · unfold gN
      rw [if_pos hf, x 12 (16 + f, 1) s (by unfold lyK scr fS; simp only [Prod.mk.injEq]; omega), mb_12 (by omega) (by omega), ma_12]
    · unfold gN
      rw [if_neg (by omega), x 4 (0, 1) 5 (by unfold lyK scr fS; simp), mb_k (by decide) (by decide) (by decide) (by decide) (by decide) (by decide), ma_z (by decide) (by decide) (by decide)]
  · rw [x 11 (0, 0) 25 (by unfold lyK scr fS; simp), mb_k (by decide) (by decide) (by decide) (by decide) (by decide) (by decide), ma_z (by decide) (by decide) (by decide)]
  · rw [x 7 (0, 0) 6 (by unfold lyK scr fS; simp), mb_k (by decide) (by decide) (by decide) (by decide) (by decide) (by decide)]
    rfl
  · rw [x 3 (0, 0) 4 (by unfold lyK scr fS; simp), mb_k (by decide) (by decide) (by decide) (by decide) (by decide) (by decide)]
    rfl
theorem law_true (hL : jSL X = jn L) (h2 : L ≤ 256) : ∃ M2, jE 21 198 0 [some (.inr (.inr (some (17, (0, 0))))), none, none, none] [] (0, ([], mrg Q17 X (wM []))) (some (.inl 1)) (512, ([], M2)) := by
  obtain ⟨g, hg, jl⟩ := r89_end (d := 0) (n := 490) (M := maM X) (ma_z (by decide) (by decide) (by decide)) (by
    funext f s
    unfold gH
    by_cases hf : f < 10
    · rw [if_pos hf, ma_z (by decide) (by decide) (by decide)]
    · rw [if_neg hf, ma_z (by decide) (by decide) (by decide)])
  have q0 : dM 0 0 0 (mbM X g) h0N := by
    refine ⟨⟨?_, ?_, ?_, ?_⟩, fun i hi => absurd hi (by omega), fun i hi => absurd hi (by omega), fun i hi => absurd hi (by omega)⟩
    · rw [mb_12 (by decide) (by decide), ma_12]; rfl
    · rw [mb_12 (by decide) (by decide), ma_12]; rfl
    · rw [mb_k (by decide) (by decide) (by decide) (by decide) (by decide) (by decide), ma_z (by decide) (by decide) (by decide)]; rfl
    · rw [mb_k (by decide) (by decide) (by decide) (by decide) (by decide) (by decide), ma_z (by decide) (by decide) (by decide)]; rfl
  obtain ⟨N, n1, n2, n3⟩ := r139 (d := 18) (n := 512) q0
  obtain ⟨N2, k4, k5, k6, k7, n4⟩ := r140 (d := 19) (n := 512) R0_td n1
  have S := mb_St hg n2 k4 k5 k6 k7
  have e17 : jSL N2 = jn L := by
    show N2 17 (0, 1) 0 = jn L
    rw [k7 17 (0, 1) 0 (by unfold lyK scr fS; simp), n2 17 (0, 1) 0 (by unfold scr; simp), mb_k (by decide) (by decide) (by decide) (by decide) (by decide) (by decide)]
    exact hL
  obtain ⟨M2, y⟩ := law_all (d := 0) (n := 512) S e17 h2
  refine ⟨M2, ?_⟩
  rw [apre_ok (X := X) _ _ _ _ _ _ _ _ _ _ _ _ _ _ (pEq_ok al_law), s198_4]
  refine ⟨none, (490, ([], mbM X g)), ?_, ?_⟩
  · rw [apre_ok (X := X) _ _ _ _ _ _ _ _ _ _ _ _ _ _ (pEq_ok al_laws)]
    exact (jl _ _).mpr ⟨rfl, rfl⟩
  · simp only [Option.toList_none, List.nil_append]
    rw [s198_7, ← mb_zero, apre_ok (X := mbM X g) _ _ _ _ _ _ _ _ _ _ _ _ _ _ (pEq_ok al_law2), s198_12]
    refine ⟨none, (512, ([], N2)), ?_, ?_⟩
    · rw [apre_ok (X := mbM X g) _ _ _ _ _ _ _ _ _ _ _ _ _ _ (pEq_ok al_model), mb_zero, s122_172, s122_173]
      refine ⟨none, (512, ([], N)), (n3 _ _).mpr ⟨rfl, rfl⟩, ?_⟩
      simp only [Option.toList_none, List.nil_append]
      rw [s122_176, s122_177]
      refine ⟨none, (512, ([], N2)), (n4 _ _).mpr ⟨rfl, rfl⟩, ?_⟩
      simp only [Option.toList_none, List.nil_append]
      rw [s122_180]
      exact ⟨rfl, rfl⟩
    · simp only [Option.toList_none, List.nil_append]
      rw [s198_15, s198_16, s198_17]
      exact y
end JLT
