/-! the calls that only look: the class and then the reference -/
def StI (K T : Nat) (M : jM) : Prop := ∃ t a b l p c q e m L, t ≤ T ∧ Inv K t a b l p c q e m L M
/-- the script is as it was -/
def s17 (M M' : jM) : Prop := ∀ a s, M' 17 a s = M 17 a s
/-- one call: the class answers, then the reference the same; they stand together again -/
def okC (d n K T : Nat) (M : jM) (mc mr : Nat) (al ml : List (Option jV)) : Prop := ∃ M1 M2 x, jE (d + 20) mc 0 al [] (n, ([], M)) (some (.inl x)) (n, ([], M1)) ∧ jE (d + 20) mr 0 ml [] (n, ([], M1)) (some (.inl x)) (n, ([], M2)) ∧ StI (K + 7) (T + 1) M2 ∧ s17 M M1 ∧ s17 M M2
section JCL
variable {d n K T t a b l p c q e m L mc mr : Nat} {M M1 M2 : jM} {x y z : Int32} {al ml : List (Option jV)}
theorem s17_r : s17 M M := fun _ _ => rfl
theorem s17_tr (h : s17 M M1) (h' : s17 M1 M2) : s17 M M2 := fun a s => (h' a s).trans (h a s)
theorem s17_i (e : iEq M M1) : s17 M M1 := fun a s => e 17 a s (by unfold scr; simp)
theorem s17_e {P : Nat → jA → Nat → Prop} (e : eqO P M M1) (h : ∀ a s, P 17 a s) : s17 M M1 := fun a s => e 17 a s (h a s)
theorem Inv_K {K' : Nat} (w : Inv K t a b l p c q e m L M) (h : K ≤ K') : Inv K' t a b l p c q e m L M := by
  have i2 : ∀ {R base u row p c}, I2 K a b R base u row p c M → I2 K' a b R base u row p c M := fun i => ⟨i.1, i.2.1, fun j hj => by
    obtain ⟨l', h1, h2⟩ := i.2.2 j hj
    exact ⟨l', hOk_K h1 h, h2⟩⟩
  exact ⟨⟨hOk_K w.1.1 h, w.1.2⟩, ⟨i2 w.2.1.1, w.2.1.2⟩, ⟨i2 w.2.2.1.1, w.2.2.1.2⟩, w.2.2.2⟩
theorem St_K {K' T' : Nat} (S : StI K T M) (h : K ≤ K') (h' : T ≤ T') : StI K' T' M := by
  obtain ⟨t, a, b, l, p, c, q, e, m, L, ht, w⟩ := S
  exact ⟨t, a, b, l, p, c, q, e, m, L, by omega, Inv_K w h⟩
theorem Inv_rO (w : Inv K t a b l p c q e m L M) : rO K a b l 55 M (gH M 1) := ⟨w.1.1, w.1.2.1, w.1.2.2, Or.inl rfl⟩
theorem Inv_hy (w : Inv K t a b l p c q e m L M) : M 11 (0, 0) 25 = 0 := w.2.2.2.2.2.1.2.2
theorem St_eq (S : StI K T M) (x : iEq M M1) : StI K T M1 := by
  obtain ⟨t, a, b, l, p, c, q, e, m, L, ht, w⟩ := S
  exact ⟨t, a, b, l, p, c, q, e, m, L, ht, Inv_eq x w⟩
theorem ok_ro (S : StI K T M) {ans : jH → Int32}
    (hc : ∀ a b l, hOk K a b l (gH M 1) → ∃ M1, iEq M M1 ∧ jE (d + 20) mc 0 al [] (n, ([], M)) (some (.inl (ans (gH M 1)))) (n, ([], M1)))
    (hr : ∀ M1 a b l h, rO K a b l 55 M1 h → M1 11 (0, 0) 25 = 0 → ∃ M2, iEq M1 M2 ∧ jE (d + 20) mr 0 ml [] (n, ([], M1)) (some (.inl (ans h))) (n, ([], M2))) : okC d n K T M mc mr al ml := by
  obtain ⟨t, a, b, l, p, c, q, e, m, L, ht, w⟩ := S
  obtain ⟨M1, e1, j1⟩ := hc a b l w.1.1
  have w1 := Inv_eq e1 w
  obtain ⟨M2, e2, j2⟩ := hr M1 a b l _ (Inv_rO w1) (Inv_hy w1)
  rw [iEq_gH e1 (by omega) (by omega)] at j2
  exact ⟨M1, M2, _, j1, j2, ⟨t, a, b, l, p, c, q, e, m, L, by omega, Inv_K (Inv_eq e2 w1) (by omega)⟩, s17_i e1, s17_tr (s17_i e1) (s17_i e2)⟩
theorem ok_scene (S : StI K T M) : okC d n K T M 94 159 (lw [.inl x, .inl y]) (lm [.inl x, .inl y]) :=
  ok_ro S (ans := fun h => lwScene h x y) (fun _ _ _ _ => ⟨M, iEq_rfl M, jE_of (fun _ _ => l94)⟩) (fun M1 _ _ _ _ w _ => ⟨M1, iEq_rfl M1, jE_of (fun _ _ => m159 w)⟩)
theorem ok_seat (S : StI K T M) : okC d n K T M 95 160 (lw [.inl x, .inl y]) (lm [.inl x, .inl y]) :=
  ok_ro S (ans := fun h => lwSeat h x y) (fun _ _ _ _ => ⟨M, iEq_rfl M, jE_of (fun _ _ => l95)⟩) (fun M1 _ _ _ _ w _ => ⟨M1, iEq_rfl M1, jE_of (fun _ _ => m160 w)⟩)
theorem ok_tonight (S : StI K T M) (hK : K ≤ 900000) : okC d n K T M 96 161 (lw [.inl x, .inl y]) (lm [.inl x, .inl y]) :=
  ok_ro S (ans := fun h => lwTon h x y) (fun _ _ _ _ => l96) (fun _ _ _ _ _ w hy => m161 w (by omega) hy)
theorem ok_passes (S : StI K T M) (hK : K ≤ 900000) : okC d n K T M 97 162 (lw [.inl x]) (lm [.inl x]) :=
  ok_ro S (ans := fun h => lwPass h x) (fun _ _ _ _ => l97) (fun _ _ _ _ _ w hy => m162 w (by omega) hy)
theorem ok_claques (S : StI K T M) (hK : K ≤ 900000) : okC d n K T M 106 181 (lw [.inl x] ++ [none]) (lm [.inl x] ++ [none, none, none]) :=
  ok_ro S (ans := fun h => lwClaq h x) (fun _ _ _ _ => l106) (fun _ _ _ _ _ w hy => m181 w (by omega) hy)
theorem ok_falls (S : StI K T M) (hK : K ≤ 900000) : okC d n K T M 107 182 (lw []) (lm [] ++ [none, none]) :=
  ok_ro S (ans := fun h => fkCut h) (fun _ _ _ w => l107 w.2.1.2.2 (by have := w.1; omega)) (fun _ _ _ _ _ w hy => m182 w (by omega) hy)
theorem ok_run (S : StI K T M) (hK : K ≤ 900000) : okC d n K T M 108 183 (lw []) (lm [] ++ [none, none]) :=
  ok_ro S (ans := fun h => jn (naRun 30 0 h)) (fun _ _ _ _ => l108) (fun _ _ _ _ _ w hy => m183 w hK hy)
theorem ok_most (S : StI K T M) (hK : K ≤ 900000) : okC d n K T M 109 184 (lw [.inl x]) (lm [.inl x] ++ [none, none, none, none, none]) :=
  ok_ro S (ans := fun h => lwMost h x) (fun _ _ _ w => l109 w) (fun _ _ _ _ _ w hy => m184 w (by omega) hy)
theorem ok_coughs (S : StI K T M) (hK : K ≤ 900000) : okC d n K T M 113 189 (lw [.inl x, .inl y]) (lm [.inl x, .inl y] ++ [none, none, none, none, none, none]) :=
  ok_ro S (ans := fun h => lwCough h x y) (fun _ _ _ _ => l113) (fun _ _ _ _ _ w hy => m189 w (by omega) hy)
theorem ok_season (S : StI K T M) (hK : K ≤ 900000) : okC d n K T M 114 191 (lw [.inl x, .inl y, .inl z]) (lm [.inl x, .inl y, .inl z] ++ [none, none, none, none]) :=
  ok_ro S (ans := fun h => lwSeason h x y z) (fun _ _ _ w => l114 w) (fun _ _ _ _ _ w hy => m191 w hK hy)
theorem ok_fits (S : StI K T M) (hK : K ≤ 900000) : okC d n K T M 112 188 (lw [.inl x, .inl y]) (lm [.inl x, .inl y] ++ [none, none, none, none]) := by
  obtain ⟨t, a, b, l, p, c, q, e, m, L, ht, w⟩ := S
  obtain ⟨M1, e1, j1⟩ := l112 (d := d) (n := n) (M := M) (x := x) (y := y)
  have w1 := Inv_eq e1 w
  have w4 := w1.2.2.2.1
  obtain ⟨M2, e2, j2⟩ := m188 (d := d) (n := n) (x := x) (y := y) (Inv_rO w1) (show K ≤ 1000000 by omega) (Inv_hy w1) w4.2.2.1 w4.1
  refine ⟨M1, M2, _, j1, ?_, ⟨t, a, b, l, p, c, q, e, m, L, by omega, Inv_K (Inv_eq e2 w1) (by omega)⟩, s17_i e1, s17_tr (s17_i e1) (s17_i e2)⟩
  have ex : lwFitsH (gH M1 1) (M1 12 (67, 0)) (M1 12 (68, 0)) m x y = lwFits M (gH M 1) x y := by
    rw [iEq_gH e1 (by omega) (by omega)]
    have e67 : M1 12 (67, 0) = M 12 (67, 0) := funext fun s => e1 12 (67, 0) s (by unfold scr; simp)
    have e68 : M1 12 (68, 0) = M 12 (68, 0) := funext fun s => e1 12 (68, 0) s (by unfold scr; simp)
    rw [e67, e68]
    unfold lwFitsH lwFits
    have v4 := w.2.2.2.1
    by_cases h1 : (0 ≤ x ∧ x ≤ gH M 1 10 11 - 1) ∧ (0 ≤ y ∧ y ≤ 1)
    · rw [if_pos h1, if_pos h1]
      obtain ⟨s, hs, es⟩ := (lw_seat w.1.1).mp h1.1
      have hb := w.1.1.1
      have ec : x.toNatClampNeg = s := by rw [es]; exact jn_clamp (by omega)
      rw [ec, es, fp_class (show s < 7 by omega) 7 v4.2.1 v4.1, fp_class (show s < 7 by omega) 6 v4.2.1 v4.1, fpH_E v4.1 v4.2.2.2, fpH_E v4.1 v4.2.2.2]
    · rw [if_neg h1, if_neg h1]
  rw [← ex]
  exact j2
theorem ok_count (S : StI K T M) : okC d n K T M 117 194 (lw [.inl x]) (lm [.inl x]) := by
  obtain ⟨t, a, b, l, p, c, q, e, m, L, ht, w⟩ := S
  have j2 := jE_of (fun v σ' => m194 (d := d) (n := n) (x := x) (v := v) (σ' := σ') (Inv_rO w))
  refine ⟨M, M, _, jE_of (fun _ _ => l117), ?_, ⟨t, a, b, l, p, c, q, e, m, L, by omega, Inv_K w (by omega)⟩, s17_r, s17_r⟩
  unfold lwCount
  rw [w.2.2.2.1.2.1, w.2.1.1.2.1.2, w.2.2.1.1.2.1.2, w.2.2.2.2.1.2.1]
  rw [w.2.2.2.1.2.2.1, w.2.1.2, w.2.2.1.2, w.2.2.2.2.1.2.2.1] at j2
  exact j2
theorem ok_soonest (S : StI K T M) (hK : K ≤ 900000) (hT : T ≤ 900000) : okC d n K T M 104 178 (lw [.inl x, .inl y]) (lm [.inl x, .inl y] ++ [none, none, none, none]) := by
  obtain ⟨t, a, b, l, p, c, q, e, m, L, ht, w⟩ := S
  obtain ⟨M1, e1, w6, j1⟩ := l104 (d := d) (n := n) (M := M) (x := x) (y := y) w.1.1 w.2.2.2.2.2 (by omega)
  have w1 : Inv K t a b l p c q e m L M1 := by
    unfold Inv
    rw [e1 11 (0, 0) 17 (by unfold shK shFix; simp), e1 11 (0, 0) 19 (by unfold shK shFix; simp)]
    exact ⟨I1_eq (eqO_le e1 (fun k a s z => by obtain ⟨a1, a2⟩ := a; unfold f1 fS at z; unfold shK shFix; simp only [Prod.mk.injEq] at z ⊢; omega)) w.1, ⟨I2_eq (eqO_le e1 (fun k a s z => by obtain ⟨a1, a2⟩ := a; unfold f2 fS at z; unfold shK shFix; simp only [Prod.mk.injEq] at z ⊢; omega)) (by omega) w.2.1.1, w.2.1.2⟩, ⟨I2_eq (eqO_le e1 (fun k a s z => by obtain ⟨a1, a2⟩ := a; unfold f2 fS at z; unfold shK shFix; simp only [Prod.mk.injEq] at z ⊢; omega)) (by omega) w.2.2.1.1, w.2.2.1.2⟩, I4_eq (eqO_le e1 (fun k a s z => by obtain ⟨a1, a2⟩ := a; unfold f4 at z; unfold shK shFix; simp only [Prod.mk.injEq] at z ⊢; omega)) w.2.2.2.1, I5_eq (eqO_le e1 (fun k a s z => by obtain ⟨a1, a2⟩ := a; unfold f5 at z; unfold shK shFix; simp only [Prod.mk.injEq] at z ⊢; omega)) w.2.2.2.2.1, w6⟩
  obtain ⟨M2, e2, j2⟩ := m178 (d := d) (n := n) (x := x) (y := y) (Inv_rO w1) (show K ≤ 1000000 by omega) (Inv_hy w1)
  have eg : gH M1 1 = gH M 1 := eqO_gH e1 (fun f s hf => by unfold shK shFix; simp only [Prod.mk.injEq]; omega) (fun s => by unfold shK shFix; simp only [Prod.mk.injEq]; omega)
  rw [eg] at j2
  exact ⟨M1, M2, _, j1, j2, ⟨t, a, b, l, p, c, q, e, m, L, by omega, Inv_K (Inv_eq e2 w1) (by omega)⟩, s17_e e1 (fun _ _ => by unfold shK shFix; simp), s17_tr (s17_e e1 (fun _ _ => by unfold shK shFix; simp)) (s17_i e2)⟩
theorem ok_seating (S : StI K T M) (hK : K ≤ 900000) (hT : T ≤ 900000) : okC d n K T M 105 180 (lw [.inl x]) (lm [.inl x] ++ [none, none, none, none]) := by
  obtain ⟨t, a, b, l, p, c, q, e, m, L, ht, w⟩ := S
  obtain ⟨M1, c0, e1, w6, j1⟩ := l105 (d := d) (n := n) (M := M) (x := x) w.1.1 w.2.2.2.2.2 (by omega)
  have w1 : Inv K t a b l p c q e m L M1 := by
    unfold Inv
    rw [e1 11 (0, 0) 17 (by unfold liK; simp), e1 11 (0, 0) 19 (by unfold liK; simp)]
    exact ⟨I1_eq (eqO_le e1 (fun k a s z => by obtain ⟨a1, a2⟩ := a; unfold f1 fS at z; unfold liK; simp only [Prod.mk.injEq] at z ⊢; omega)) w.1, ⟨I2_eq (eqO_le e1 (fun k a s z => by obtain ⟨a1, a2⟩ := a; unfold f2 fS at z; unfold liK; simp only [Prod.mk.injEq] at z ⊢; omega)) (by omega) w.2.1.1, w.2.1.2⟩, ⟨I2_eq (eqO_le e1 (fun k a s z => by obtain ⟨a1, a2⟩ := a; unfold f2 fS at z; unfold liK; simp only [Prod.mk.injEq] at z ⊢; omega)) (by omega) w.2.2.1.1, w.2.2.1.2⟩, I4_eq (eqO_le e1 (fun k a s z => by obtain ⟨a1, a2⟩ := a; unfold f4 at z; unfold liK; simp only [Prod.mk.injEq] at z ⊢; omega)) w.2.2.2.1, I5_eq (eqO_le e1 (fun k a s z => by obtain ⟨a1, a2⟩ := a; unfold f5 at z; unfold liK; simp only [Prod.mk.injEq] at z ⊢; omega)) w.2.2.2.2.1, w6⟩
  obtain ⟨M2, e2, j2⟩ := m180 (d := d) (n := n) (x := x) (Inv_rO w1) (show K ≤ 1000000 by omega) (Inv_hy w1) c0
  have eg : gH M1 1 = gH M 1 := eqO_gH e1 (fun f s hf => by unfold liK; simp only [Prod.mk.injEq]; omega) (fun s => by unfold liK; simp only [Prod.mk.injEq]; omega)
  rw [eg] at j2
  exact ⟨M1, M2, _, j1, j2, ⟨t, a, b, l, p, c, q, e, m, L, by omega, Inv_K (Inv_eq e2 w1) (by omega)⟩, s17_e e1 (fun _ _ => by unfold liK; simp), s17_tr (s17_e e1 (fun _ _ => by unfold liK; simp)) (s17_i e2)⟩
end JCL
