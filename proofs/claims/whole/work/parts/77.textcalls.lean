/-! the calls on the text and the sights -/
section JTC
variable {d n K T t a b l p c q e m L : Nat} {M M1 M2 M' : jM} {x y z : Int32} {g h : jH}
theorem hEq_hOk (e : hEq g h) (w : hOk K a b l h) : hOk K a b l g := by
  have w1 := w.1
  have r : ∀ f, f < 10 → ∀ i, i < 7 → g f i = h f i := e.1
  have bd : ∀ {f m lo hi}, f < 10 → m ≤ 7 → cBd m lo hi (h f) → cBd m lo hi (g f) := fun hf hm k i hi => by rw [r _ hf i (by omega)]; exact k i hi
  have ci : ∀ {f l a}, f < 10 → l ≤ 7 → cIn l a (h f) → cIn l a (g f) := fun hf hl k => ⟨fun i hi => by rw [r _ hf i (by omega)]; exact k.1 i hi, fun i j hi hj => by rw [r _ hf i (by omega), r _ hf j (by omega)]; exact k.2 i j hi hj⟩
  refine ⟨w1, ⟨?_, ?_, ?_⟩, ci (by omega) (by omega) w.2.2.1, ci (by omega) (by omega) w.2.2.2.1, ⟨bd (by omega) (by omega) w.2.2.2.2.1.1, bd (by omega) (by omega) w.2.2.2.2.1.2.1, bd (by omega) (by omega) w.2.2.2.2.1.2.2.1, bd (by omega) (by omega) w.2.2.2.2.1.2.2.2⟩, ⟨bd (by omega) (by omega) w.2.2.2.2.2.1, bd (by omega) (by omega) w.2.2.2.2.2.2.1, bd (by omega) (by omega) w.2.2.2.2.2.2.2.1, bd (by omega) (by omega) w.2.2.2.2.2.2.2.2⟩⟩
  · rw [e.2 10 (by omega) (by omega)]; exact w.2.1.1
  · rw [e.2 11 (by omega) (by omega)]; exact w.2.1.2.1
  · rw [e.2 12 (by omega) (by omega)]; exact w.2.1.2.2
theorem hEq_rS (e : hEq g h) (ha : a ≤ 7) (hb : b ≤ 7) (w : rS a b M h) : rS a b M g := by
  refine ⟨w.1, fun s hs => ?_, fun s hs => ?_⟩
  · rw [e.1 0 (by omega) s (by omega), e.1 1 (by omega) s (by omega), e.1 2 (by omega) s (by omega)]; exact w.2.1 s hs
  · rw [e.1 6 (by omega) s (by omega), e.1 7 (by omega) s (by omega)]; exact w.2.2 s hs
theorem hEq_rD {r : Nat → Int32} (e : hEq g h) (ha : a ≤ 7) (hb : b ≤ 7) (hl : l ≤ 7) (w : rD a b l r h) : rD a b l r g := by
  refine ⟨fun i hi => ?_, ?_, fun s hs => ?_, fun s hs => ?_⟩
  · rw [e.1 4 (by omega) i (by omega)]; exact w.1 i hi
  · rw [e.2 12 (by omega) (by omega), e.2 13 (by omega) (by omega), e.2 14 (by omega) (by omega), e.2 15 (by omega) (by omega)]; exact w.2.1
  · rw [e.1 5 (by omega) s (by omega), e.1 9 (by omega) s (by omega), e.1 8 (by omega) s (by omega)]; exact w.2.2.1 s hs
  · rw [e.1 3 (by omega) s (by omega)]; exact w.2.2.2 s hs
theorem rD_ext {r r' : Nat → Int32} (hb : b ≤ 7) (ha : a ≤ 7) (hl : l ≤ 7) (e : ∀ j, j < 39 → r' j = r j) (w : rD a b l r h) : rD a b l r' h := by
  refine ⟨fun i hi => ?_, ?_, fun s hs => ?_, fun s hs => ?_⟩
  · rw [e i (by omega)]; exact w.1 i hi
  · rw [e 7 (by omega), e 8 (by omega), e 9 (by omega), e 10 (by omega)]; exact w.2.1
  · rw [e _ (by omega), e _ (by omega), e _ (by omega)]; exact w.2.2.1 s hs
  · rw [e _ (by omega)]; exact w.2.2.2 s hs
theorem I6_bump {a' b' : Nat} (w : I6 t a b M) (h10 : M' 10 (0, 0) 10 = jn (t + 1)) (hn : gN M' 1 = gN M 1) (h25 : M' 11 (0, 0) 25 = M 11 (0, 0) 25) (h7 : M' 7 (0, 0) 6 = M 7 (0, 0) 6) (h3 : M' 3 (0, 0) 4 = M 3 (0, 0) 4) : I6 (t + 1) a' b' M' := by
  refine ⟨⟨h10, by rw [hn]; exact w.1.2.1, by rw [h25]; exact w.1.2.2⟩, ?_, ?_⟩
  · rw [h7]
    rcases w.2.1 with z | ⟨t', z1, z2, _⟩
    · exact Or.inl z
    · exact Or.inr ⟨t', by omega, z2, fun z => by omega⟩
  · rw [h3]
    rcases w.2.2 with z | ⟨t', z1, z2, _⟩
    · exact Or.inl z
    · exact Or.inr ⟨t', by omega, z2, fun z => by omega⟩
/-- all but the text -/
def tyK (k : Nat) (a : jA) (s : Nat) : Prop := ¬ (k = 9 ∧ s = 2) ∧ ¬ (k = 11 ∧ s = 1) ∧ k ≠ 14 ∧ ¬ (k = 12 ∧ a.1 = 30)
theorem Inv_text {L' : Nat} (e5 : eqO tyK M M') (w : Inv K t a b l p c q e m L M) (w5 : I5 L' M') : Inv K t a b l p c q e m L' M' := by
  unfold Inv
  rw [e5 11 (0, 0) 17 (by unfold tyK; simp), e5 11 (0, 0) 19 (by unfold tyK; simp)]
  exact ⟨I1_eq (eqO_le e5 (fun k a s z => by unfold f1 fS at z; unfold tyK; omega)) w.1, ⟨I2_eq (eqO_le e5 (fun k a s z => by unfold f2 fS at z; unfold tyK; omega)) (by omega) w.2.1.1, w.2.1.2⟩, ⟨I2_eq (eqO_le e5 (fun k a s z => by unfold f2 fS at z; unfold tyK; omega)) (by omega) w.2.2.1.1, w.2.2.1.2⟩, I4_eq (eqO_le e5 (fun k a s z => by unfold f4 at z; unfold tyK; omega)) w.2.2.2.1, w5, I6_eq (eqO_le e5 (fun k a s z => by unfold f6 at z; unfold tyK; omega)) w.2.2.2.2.2⟩
theorem ok_write (S : StI K T M) : okC d n K T M 90 124 (lw [.inl x]) (lm [.inl x]) := by
  obtain ⟨t, a, b, l, p, c, q, e, m, L, ht, w⟩ := S
  have w5 := w.2.2.2.2.1
  by_cases h1 : 32 ≤ x ∧ x ≤ 126
  · have h0 : 0 ≤ x := Int32.le_trans (by decide) h1.1
    have ex := jx_of h0
    have hk2 : x.toNatClampNeg ≤ 126 := jx_le (k := 126) h0 (by omega) h1.2
    have hk1 : 32 ≤ x.toNatClampNeg := by
      have h3 := h1.1
      rw [← ex] at h3
      exact (jn_le (k := 32) (by omega) (by omega)).mp h3
    by_cases h2 : L < 200
    · have j1 := jE_of (fun v σ' => l90_yes (d := d) (n := n) (x := x) (v := v) (σ' := σ') h1 w5.2.1 w5.1)
      rw [if_pos h2, if_pos h2] at j1
      have j2 := jE_of (fun v σ' => m124_yes (d := d) (n := n) (v := v) (σ' := σ') (M := jUp (mC M (30, 0) (upd (M 12 (30, 0)) L x)) 9 (0, 0) 2 (jn (L + 1))) ⟨hk1, hk2⟩ (by rw [jUp_k (by decide), mC_k (by decide)]; exact w5.2.2.1) h2)
      rw [ex] at j2
      refine ⟨_, _, _, j1, j2, ⟨t, a, b, l, p, c, q, e, m, L + 1, by omega, Inv_K (Inv_text ?_ w ⟨by omega, ?_, ?_, ?_⟩) (by omega)⟩, fun a s => by rw [jUp_k (by decide), mC_k (by decide)], fun a s => by rw [jUp_k (by decide), jUp_k (by decide), jUp_k (by decide), mC_k (by decide)]⟩
      · refine eqO_tr (eqO_tr (eqO_tr (eqO_mC (fun s => Or.inl ?_)) (eqO_up ?_)) (eqO_up ?_)) (eqO_up ?_) <;> unfold tyK <;> simp
      · rw [jUp_k (by decide), jUp_k (by decide), jUp_at]
      · rw [jUp_at]
      · intro i hi
        rw [jUp_k (show (14 : Nat) ≠ 11 by decide), jUp_k (show (12 : Nat) ≠ 11 by decide), jUp_k (show (12 : Nat) ≠ 14 by decide), jUp_k (show (12 : Nat) ≠ 9 by decide), mC_at]
        unfold upd
        by_cases ei : i = L
        · rw [if_pos ei]
          subst ei
          exact ⟨by rw [jUp_at], x.toNatClampNeg, hk1, hk2, ex.symm⟩
        · rw [if_neg ei, jUp_s ei, jUp_k (show (14 : Nat) ≠ 9 by decide), mC_k (by decide)]
          exact w5.2.2.2 i (by omega)
    · have e200 : L = 200 := by have := w5.1; omega
      have j1 := jE_of (fun v σ' => l90_yes (d := d) (n := n) (x := x) (v := v) (σ' := σ') h1 w5.2.1 w5.1)
      rw [if_neg h2, if_neg h2] at j1
      exact ⟨M, M, _, j1, jE_of (fun _ _ => m124_full h1 (by rw [w5.2.2.1, e200]; rfl)), ⟨t, a, b, l, p, c, q, e, m, L, by omega, Inv_K w (by omega)⟩, s17_r, s17_r⟩
  · exact ⟨M, M, _, jE_of (fun _ _ => l90_no h1), jE_of (fun _ _ => m124_no h1), ⟨t, a, b, l, p, c, q, e, m, L, by omega, Inv_K w (by omega)⟩, s17_r, s17_r⟩
theorem ok_wipe (S : StI K T M) : okC d n K T M 91 125 (lw [] ++ [none]) (lm [] ++ [none]) := by
  obtain ⟨t, a, b, l, p, c, q, e, m, L, ht, w⟩ := S
  have w5 := w.2.2.2.2.1
  have j1 := jE_of (fun v σ' => l91 (d := d) (n := n) (M := M) (v := v) (σ' := σ'))
  have j2 := jE_of (fun v σ' => m125 (d := d) (n := n) (M := jUp M 9 (0, 0) 2 0) (v := v) (σ' := σ'))
  rw [w5.2.1] at j1
  rw [jUp_k (by decide), w5.2.2.1] at j2
  refine ⟨_, _, _, j1, j2, ⟨t, a, b, l, p, c, q, e, m, 0, by omega, Inv_K (Inv_text ?_ w ⟨by omega, ?_, ?_, fun i hi => absurd hi (by omega)⟩) (by omega)⟩, fun a s => by rw [jUp_k (by decide)], fun a s => by rw [jUp_k (by decide), jUp_k (by decide)]⟩
  · refine eqO_tr (eqO_up ?_) (eqO_up ?_) <;> unfold tyK <;> simp
  · rw [jUp_k (by decide), jUp_at]; rfl
  · rw [jUp_at]; rfl
theorem ok_fault (S : StI K T M) : okC d n K T M 92 135 (lw []) (lm []) := by
  obtain ⟨t, a, b, l, p, c, q, e, m, L, ht, w⟩ := S
  have w5 := w.2.2.2.2.1
  have j1 := jE_of (fun v σ' => l92 (d := d) (n := n) (M := M) (v := v) (σ' := σ') w5.2.1 w5.1)
  have w1 := Inv_eq (iEq_tX (M := M) (h := (rdAll M L).2.2) (s := (rdAll M L).2.1)) w
  obtain ⟨N, e1, j2⟩ := m135 (d := d) (n := n) w1.2.2.2.2.1 (gH M 0)
  have j2 := jE_of j2
  rw [tX_30] at j2
  exact ⟨_, _, _, j1, j2, ⟨t, a, b, l, p, c, q, e, m, L, by omega, Inv_K (Inv_eq e1 w1) (by omega)⟩, s17_i iEq_tX, s17_tr (s17_i iEq_tX) (s17_i e1)⟩
/-- the sights -/
def siK (k : Nat) (a : jA) (s : Nat) : Prop := ¬ (k = 8 ∧ s = 2) ∧ ¬ (k = 11 ∧ s = 29) ∧ ¬ (k = 12 ∧ (a.1 = 31 ∨ a.1 = 32 ∨ a.1 = 67 ∨ a.1 = 68))
theorem Inv_sight {m' : Nat} (e5 : eqO siK M M') (w : Inv K t a b l p c q e m L M) (w4 : I4 m' M') : Inv K t a b l p c q e m' L M' := by
  unfold Inv
  rw [e5 11 (0, 0) 17 (by unfold siK; simp), e5 11 (0, 0) 19 (by unfold siK; simp)]
  exact ⟨I1_eq (eqO_le e5 (fun k a s z => by unfold f1 fS at z; unfold siK; omega)) w.1, ⟨I2_eq (eqO_le e5 (fun k a s z => by unfold f2 fS at z; unfold siK; omega)) (by omega) w.2.1.1, w.2.1.2⟩, ⟨I2_eq (eqO_le e5 (fun k a s z => by unfold f2 fS at z; unfold siK; omega)) (by omega) w.2.2.1.1, w.2.2.1.2⟩, w4, I5_eq (eqO_le e5 (fun k a s z => by unfold f5 at z; unfold siK; omega)) w.2.2.2.2.1, I6_eq (eqO_le e5 (fun k a s z => by unfold f6 at z; unfold siK; omega)) w.2.2.2.2.2⟩
theorem ok_see (S : StI K T M) : okC d n K T M 110 185 (lw [.inl x, .inl y]) (lm [.inl x, .inl y]) := by
  obtain ⟨t, a, b, l, p, c, q, e, m, L, ht, w⟩ := S
  have w4 := w.2.2.2.1
  have h6 := w4.1
  by_cases h1 : lwIsSe (gH M 1) x ∧ 0 ≤ y ∧ y ≤ 7
  · by_cases h2 : m < 6
    · have hm : M 8 (0, 0) 2 < 6 := by rw [w4.2.1]; exact (jn_lt (k := m) (l := 6) (by omega) (by omega)).mpr h2
      have j1 := jE_of (fun v σ' => l110_yes (d := d) (n := n) (v := v) (σ' := σ') h1 hm)
      have hs : sgNote M x y = jUp (mC (mC M (31, 0) (upd (M 12 (31, 0)) m x)) (32, 0) (upd (M 12 (32, 0)) m y)) 8 (0, 0) 2 (jn (m + 1)) := by
        unfold sgNote
        rw [w4.2.1, rs_in (by omega) h2, rs_in (by omega) h2, jn_1]
      have e1 : eqO siK M (sgNote M x y) := by
        rw [hs]
        refine eqO_tr (eqO_tr (eqO_mC (fun s => Or.inl ?_)) (eqO_mC (fun s => Or.inl ?_))) (eqO_up ?_) <;> unfold siK <;> simp
      have wr : rO K a b l 55 (sgNote M x y) (gH M 1) := by
        have w1 : I1 K a b l (sgNote M x y) := I1_eq (eqO_le e1 (fun k a s z => by unfold f1 fS at z; unfold siK; omega)) w.1
        have eg : gH (sgNote M x y) 1 = gH M 1 := eqO_gH e1 (fun f s hf => by unfold siK; simp; omega) (fun s => by unfold siK; simp)
        rw [← eg]
        exact ⟨w1.1, w1.2.1, w1.2.2, Or.inl rfl⟩
      have hm29 : sgNote M x y 11 (0, 0) 29 = jn m := by
        rw [hs, jUp_k (by decide), mC_k (by decide), mC_k (by decide)]
        exact w4.2.2.1
      have j2 := jE_of (fun v σ' => m185_yes (d := d) (n := n) (v := v) (σ' := σ') wr h1 hm29 h2)
      rw [w4.2.1, jn_1] at j1
      refine ⟨_, _, _, j1, j2, ⟨t, a, b, l, p, c, q, e, m + 1, L, by omega, Inv_K (Inv_sight (eqO_tr e1 ?_) w ⟨by omega, ?_, ?_, ?_⟩) (by omega)⟩, s17_e e1 (fun _ _ => by unfold siK; simp), fun a s => by rw [jUp_k (by decide), mC_k (by decide), mC_k (by decide)]; exact s17_e e1 (fun _ _ => by unfold siK; simp) a s⟩
      · refine eqO_tr (eqO_tr (eqO_mC (fun s => Or.inl ?_)) (eqO_mC (fun s => Or.inl ?_))) (eqO_up ?_) <;> unfold siK <;> simp
      · rw [jUp_k (by decide), mC_k (by decide), mC_k (by decide), hs, jUp_at]
      · rw [jUp_at]
      · intro j hj
        have s31 : sgNote M x y 12 (31, 0) = upd (M 12 (31, 0)) m x := by rw [hs, jUp_k (by decide), mC_ne (by decide), mC_at]
        have s32 : sgNote M x y 12 (32, 0) = upd (M 12 (32, 0)) m y := by rw [hs, jUp_k (by decide), mC_at]
        have s67 : sgNote M x y 12 (67, 0) = M 12 (67, 0) := by rw [hs, jUp_k (by decide), mC_ne (by decide), mC_ne (by decide)]
        have s68 : sgNote M x y 12 (68, 0) = M 12 (68, 0) := by rw [hs, jUp_k (by decide), mC_ne (by decide), mC_ne (by decide)]
        generalize sgNote M x y = N at s31 s32 s67 s68 ⊢
        have k67 : jUp (mC (mC N (67, 0) (upd (N 12 (67, 0)) m x)) (68, 0) (upd (N 12 (68, 0)) m y)) 11 (0, 0) 29 (jn (m + 1)) 12 (67, 0) = upd (M 12 (67, 0)) m x := by rw [jUp_k (by decide), mC_ne (by decide), mC_at, s67]
        have k68 : jUp (mC (mC N (67, 0) (upd (N 12 (67, 0)) m x)) (68, 0) (upd (N 12 (68, 0)) m y)) 11 (0, 0) 29 (jn (m + 1)) 12 (68, 0) = upd (M 12 (68, 0)) m y := by rw [jUp_k (by decide), mC_at, s68]
        have k31 : jUp (mC (mC N (67, 0) (upd (N 12 (67, 0)) m x)) (68, 0) (upd (N 12 (68, 0)) m y)) 11 (0, 0) 29 (jn (m + 1)) 12 (31, 0) = upd (M 12 (31, 0)) m x := by rw [jUp_k (by decide), mC_ne (by decide), mC_ne (by decide), s31]
        have k32 : jUp (mC (mC N (67, 0) (upd (N 12 (67, 0)) m x)) (68, 0) (upd (N 12 (68, 0)) m y)) 11 (0, 0) 29 (jn (m + 1)) 12 (32, 0) = upd (M 12 (32, 0)) m y := by rw [jUp_k (by decide), mC_ne (by decide), mC_ne (by decide), s32]
        rw [k67, k68, k31, k32]
        unfold upd
        by_cases ej : j = m
        · rw [if_pos ej, if_pos ej, if_pos ej, if_pos ej]; exact ⟨rfl, rfl⟩
        · rw [if_neg ej, if_neg ej, if_neg ej, if_neg ej]; exact w4.2.2.2 j (by omega)
    · have e6 : m = 6 := by omega
      have hm : ¬ M 8 (0, 0) 2 < 6 := by rw [w4.2.1, e6]; decide
      exact ⟨M, M, _, jE_of (fun _ _ => l110_full h1 hm), jE_of (fun _ _ => m185_full (Inv_rO w) h1 (by rw [w4.2.2.1, e6]; rfl)), ⟨t, a, b, l, p, c, q, e, m, L, by omega, Inv_K w (by omega)⟩, s17_r, s17_r⟩
  · exact ⟨M, M, _, jE_of (fun _ _ => l110_no h1), jE_of (fun _ _ => m185_no (Inv_rO w) h1), ⟨t, a, b, l, p, c, q, e, m, L, by omega, Inv_K w (by omega)⟩, s17_r, s17_r⟩
theorem ok_forget (S : StI K T M) : okC d n K T M 111 186 (lw [] ++ [none]) (lm [] ++ [none]) := by
  obtain ⟨t, a, b, l, p, c, q, e, m, L, ht, w⟩ := S
  have w4 := w.2.2.2.1
  have j1 := jE_of (fun v σ' => l111 (d := d) (n := n) (M := M) (v := v) (σ' := σ'))
  have j2 := jE_of (fun v σ' => m186 (d := d) (n := n) (M := jUp M 8 (0, 0) 2 0) (v := v) (σ' := σ'))
  rw [w4.2.1] at j1
  rw [jUp_k (by decide), w4.2.2.1] at j2
  refine ⟨_, _, _, j1, j2, ⟨t, a, b, l, p, c, q, e, 0, L, by omega, Inv_K (Inv_sight ?_ w ⟨by omega, ?_, ?_, fun i hi => absurd hi (by omega)⟩) (by omega)⟩, fun a s => by rw [jUp_k (by decide)], fun a s => by rw [jUp_k (by decide), jUp_k (by decide)]⟩
  · refine eqO_tr (eqO_up ?_) (eqO_up ?_) <;> unfold siK <;> simp
  · rw [jUp_k (by decide), jUp_at]; rfl
  · rw [jUp_at]; rfl
end JTC
