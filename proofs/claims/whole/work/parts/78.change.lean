/-! the calls that change the house -/
def rmK (p : Nat) (k : Nat) (a : jA) (s : Nat) : Prop := ¬ (k = 12 ∧ a.1 < 10 ∧ (a.2 = 1 ∨ a.2 = 2 + p)) ∧ ¬ (k = 1 ∧ (a.2 = 1 ∨ a.2 = 2 + p)) ∧ ¬ (k = 2 ∧ a.2 = 0) ∧ k ≠ 10 ∧ ¬ scr k a s
def cgK (p : Nat) (k : Nat) (a : jA) (s : Nat) : Prop := rmK p k a s ∧ ¬ (k = 12 ∧ (a.1 = 55 ∨ a.1 = 56)) ∧ ¬ (k = 11 ∧ s = 17)
section JCH
variable {d n K K' T t a b l l' p c q e m L f i R base u row : Nat} {M M1 M2 M' N : jM} {x y z : Int32} {g h h' nv : jH} {r : Nat → Int32}
theorem gH_up {k s : Nat} {ad : jA} (h1 : k ≠ 12) (h2 : k ≠ 1) : gH (jUp M k ad s x) i = gH M i := by
  funext f s
  unfold gH
  rw [jUp_k (Ne.symm h1), jUp_k (Ne.symm h2)]
theorem gH_mC (hf : 10 ≤ f) : gH (mC M (f, 0) r) i = gH M i := by
  funext k s
  unfold gH
  by_cases h1 : k < 10
  · rw [if_pos h1, if_pos h1, mC_ne (fun z => by have := (Prod.mk.inj z).1; omega)]
  · rw [if_neg h1, if_neg h1, mC_k (by decide)]
theorem rS_c (e : ∀ f, f = 42 ∨ f = 43 ∨ f = 44 ∨ f = 45 ∨ f = 46 ∨ f = 48 ∨ f = 49 → M2 12 (f, 0) = M 12 (f, 0)) (w : rS a b M h) : rS a b M2 h := by
  unfold rS
  rw [e 42 (by omega), e 43 (by omega), e 44 (by omega), e 45 (by omega), e 46 (by omega), e 48 (by omega), e 49 (by omega)]
  exact w
theorem hs8 : hsL 0 = 8 := rfl
theorem hs2 : hsL 1 = 2 := rfl
/-- one more is laid aside -/
theorem I2_push2 (hK : K ≤ K') (w : I2 K a b 8 2 0 56 p c M) (hab : a ≤ 7 ∧ b ≤ 7) (h1 : hOk K a b l (gH M 1)) (hS : rS a b M (gH M 1)) (hD : rD a b l (M 12 (55, 0)) (gH M 1)) (e1 : M2 2 (0, 0) 1 = jn (hsNext 0 p)) (e2 : M2 2 (0, 0) 2 = jn (min 8 (c + 1))) (eg : hEq (gH M2 (2 + p)) (gH M 1)) (eo : ∀ i, 2 ≤ i → i < 10 → i ≠ 2 + p → gH M2 i = gH M i) (er : M2 12 (56, 0) = knC (M 12 (56, 0)) (M 12 (55, 0)) c) (es : ∀ h, rS a b M h → rS a b M2 h) : I2 K' a b 8 2 0 56 (hsNext 0 p) (min 8 (c + 1)) M2 := by
  have hp : hsNext 0 p = if p + 1 < 8 then p + 1 else 0 := rfl
  have wc := w.1
  have hpl : hsNext 0 p < 8 := by rw [hp]; by_cases z : p + 1 < 8; rw [if_pos z]; exact z; rw [if_neg z]; omega
  have hpv : hsNext 0 p = (p + 1) % 8 := by
    rw [hp]
    by_cases z : p + 1 < 8
    · rw [if_pos z]; omega
    · rw [if_neg z]; omega
  refine ⟨⟨hpl, by omega⟩, ⟨e1, e2⟩, fun j hj => ?_⟩
  rw [er, hpv]
  have hl := h1.1
  have fresh : ringAt 8 2 ((p + 1) % 8) (min 8 (c + 1)) j = 2 + p → (∀ k, k < 39 → knC (M 12 (56, 0)) (M 12 (55, 0)) c (39 * j + k) = M 12 (55, 0) k) → ∃ l', hOk K' a b l' (gH M2 (ringAt 8 2 ((p + 1) % 8) (min 8 (c + 1)) j)) ∧ rS a b M2 (gH M2 (ringAt 8 2 ((p + 1) % 8) (min 8 (c + 1)) j)) ∧ rD a b l' (fun k => knC (M 12 (56, 0)) (M 12 (55, 0)) c (39 * j + k)) (gH M2 (ringAt 8 2 ((p + 1) % 8) (min 8 (c + 1)) j)) := by
    intro z zk
    rw [z]
    exact ⟨l, hEq_hOk eg (hOk_K h1 hK), hEq_rS eg hab.1 hab.2 (es _ hS), hEq_rD eg hab.1 hab.2 (by omega) (rD_ext hab.2 hab.1 (by omega) zk hD)⟩
  have old : ∀ j', j' < c → ringAt 8 2 ((p + 1) % 8) (min 8 (c + 1)) j = ringAt 8 2 p c j' → ringAt 8 2 p c j' ≠ 2 + p → (∀ k, k < 39 → knC (M 12 (56, 0)) (M 12 (55, 0)) c (39 * j + k) = M 12 (56, 0) (39 * j' + k)) → ∃ l', hOk K' a b l' (gH M2 (ringAt 8 2 ((p + 1) % 8) (min 8 (c + 1)) j)) ∧ rS a b M2 (gH M2 (ringAt 8 2 ((p + 1) % 8) (min 8 (c + 1)) j)) ∧ rD a b l' (fun k => knC (M 12 (56, 0)) (M 12 (55, 0)) c (39 * j + k)) (gH M2 (ringAt 8 2 ((p + 1) % 8) (min 8 (c + 1)) j)) := by
    intro j' hj' z zn zk
    obtain ⟨l2, y1, y2, y3⟩ := w.2.2 j' hj'
    have hy := y1.1
    have hr := ringAt_le (R := 8) (base := 2) (p := p) (c := c) (j := j') (by omega)
    rw [z, eo _ hr.1 (by omega) zn]
    exact ⟨l2, hOk_K y1 hK, es _ y2, rD_ext hab.2 hab.1 (by omega) zk y3⟩
  by_cases hc : c = 8
  · subst hc
    by_cases hj7 : j = 7
    · refine fresh (by unfold ringAt; omega) (fun k hk => ?_)
      unfold knC
      rw [if_pos rfl, if_neg (by omega), if_pos (by omega), show 39 * j + k - 273 = k by omega]
    · refine old (j + 1) (by omega) (by unfold ringAt; omega) (by unfold ringAt; omega) (fun k hk => ?_)
      unfold knC
      rw [if_pos rfl, if_pos (by omega), show 39 + (39 * j + k) = 39 * (j + 1) + k by omega]
  · by_cases hjc : j = c
    · refine fresh (by unfold ringAt; omega) (fun k hk => ?_)
      unfold knC
      rw [if_neg hc, if_pos (by omega), show 39 * j + k - 39 * c = k by omega]
    · refine old j (by omega) (by unfold ringAt; omega) (by unfold ringAt; omega) (fun k hk => ?_)
      unfold knC
      rw [if_neg hc, if_neg (by omega)]
/-- the class has remembered and changed -/
abbrev cgM (M : jM) (p c : Nat) (nv h' : jH) : jM := sH (sN (rmM M p c) 0 nv) 1 h'
theorem rm_eqO : eqO (rmK p) M (cgM M p c nv h') := by
  unfold cgM rmM
  refine eqO_tr (eqO_tr (eqO_tr (eqO_tr (eqO_tr (eqO_sH (fun f s hf => ?_) (fun s => ?_)) (eqO_up ?_)) (eqO_up ?_)) (eqO_up ?_)) (eqO_sN (fun f s h1 h2 => ?_) (fun s => ?_))) (eqO_sH (fun f s hf => ?_) (fun s => ?_)) <;> unfold rmK scr <;> simp <;> omega
theorem rm_facts (hp : p < 8) (h10 : M 10 (0, 0) 10 = jn t) : hEq (gH (cgM M p c nv h') 1) h' ∧ hEq (gH (cgM M p c nv h') (2 + p)) (gH M 1) ∧ cgM M p c nv h' 2 (0, 0) 1 = jn (hsNext 0 p) ∧ cgM M p c nv h' 2 (0, 0) 2 = jn (min 8 (c + 1)) ∧ cgM M p c nv h' 10 (0, 0) 10 = jn (t + 1) := by
  unfold cgM
  refine ⟨hEq_gH _ _ _, ?_, ?_, ?_, ?_⟩
  · rw [gH_other (by omega), gH_sN]
    unfold rmM
    rw [gH_up (by decide) (by decide), gH_up (by decide) (by decide), gH_up (by decide) (by decide)]
    exact hEq_gH _ _ _
  · rw [sH_k (by decide) (by decide), sN_k _ _ _ (by decide) (by decide)]
    unfold rmM
    rw [jUp_k (by decide), jUp_s (by decide), jUp_at]
  · rw [sH_k (by decide) (by decide), sN_k _ _ _ (by decide) (by decide)]
    unfold rmM
    rw [jUp_k (by decide), jUp_at]
  · rw [sH_k (by decide) (by decide), sN_k _ _ _ (by decide) (by decide)]
    unfold rmM
    rw [jUp_at, h10, jn_1]
theorem rm_rO (w : Inv K t a b l p c q e m L M) : rO K a b l 55 (cgM M p c nv h') (gH M 1) ∧ cgM M p c nv h' 11 (0, 0) 17 = jn c ∧ cgM M p c nv h' 11 (0, 0) 25 = 0 := by
  have x := rm_eqO (M := M) (p := p) (c := c) (nv := nv) (h' := h')
  have w1 := w.1.1.1
  refine ⟨⟨w.1.1, rS_eq (eqO_le x (fun k a s z => by unfold fS at z; unfold rmK scr; omega)) (by omega) (by omega) w.1.2.1, ?_, Or.inl rfl⟩, ?_, ?_⟩
  · rw [show cgM M p c nv h' 12 (55, 0) = M 12 (55, 0) from funext fun s => x 12 (55, 0) s (by unfold rmK scr; simp)]
    exact w.1.2.2
  · rw [x 11 (0, 0) 17 (by unfold rmK scr; simp)]; exact w.2.1.2
  · rw [x 11 (0, 0) 25 (by unfold rmK scr; simp)]; exact w.2.2.2.2.2.1.2.2
theorem Inv_change (w : Inv K t a b l p c q e m L M) (hK : K ≤ K') (w' : hOk K' a b l' h') (d' : rD a b l' r h') (er : ∀ f, f = 0 ∨ f = 1 ∨ f = 2 ∨ f = 6 ∨ f = 7 → h' f = gH M 1 f) : Inv K' (t + 1) a b l' (hsNext 0 p) (min 8 (c + 1)) q e m L (mC (knM (cgM M p c nv h') c) (55, 0) r) := by
  have w1 := w.1.1.1
  have w2 := w'.1
  have wp := w.2.1.1.1
  have x := rm_eqO (M := M) (p := p) (c := c) (nv := nv) (h' := h')
  obtain ⟨g1, g2, c1, c2, c10⟩ := rm_facts (c := c) (nv := nv) (h' := h') wp.1 w.2.2.2.2.2.1.1
  generalize cgM M p c nv h' = M1 at x g1 g2 c1 c2 c10 ⊢
  have x2 : eqO (cgK p) M (mC (knM M1 c) (55, 0) r) := by
    unfold knM
    refine eqO_tr (eqO_tr (eqO_tr (eqO_le x (fun k a s z => z.1)) (eqO_mC (fun s => Or.inl ?_))) (eqO_up ?_)) (eqO_mC (fun s => Or.inl ?_)) <;> unfold cgK <;> simp
  have gg : ∀ i, gH (mC (knM M1 c) (55, 0) r) i = gH M1 i := by
    intro i
    rw [gH_mC (by decide)]
    unfold knM
    rw [gH_up (by decide) (by decide), gH_mC (by decide)]
  have k2 : ∀ k, k ≠ 11 → k ≠ 12 → mC (knM M1 c) (55, 0) r k = M1 k := by
    intro k h1 h2
    rw [mC_k h2]
    unfold knM
    rw [jUp_k h1, mC_k h2]
  have hS2 : rS a b (mC (knM M1 c) (55, 0) r) (gH M 1) := rS_eq (eqO_le x2 (fun k a s z => by unfold fS at z; unfold cgK rmK scr; omega)) (by omega) (by omega) w.1.2.1
  refine ⟨⟨?_, ?_, ?_⟩, ⟨?_, ?_⟩, ⟨I2_eq (eqO_le x2 (fun k a s z => by unfold f2 fS at z; unfold cgK rmK scr; omega)) (by omega) ?_, ?_⟩, I4_eq (eqO_le x2 (fun k a s z => by unfold f4 at z; unfold cgK rmK scr; omega)) w.2.2.2.1, I5_eq (eqO_le x2 (fun k a s z => by unfold f5 at z; unfold cgK rmK scr; omega)) w.2.2.2.2.1, I6_bump w.2.2.2.2.2 ?_ ?_ ?_ ?_ ?_⟩
  · rw [gg]; exact hEq_hOk g1 w'
  · rw [gg]
    exact hEq_rS g1 (by omega) (by omega) (rS_rows hS2 (er 0 (by omega)) (er 1 (by omega)) (er 2 (by omega)) (er 6 (by omega)) (er 7 (by omega)))
  · rw [gg, mC_at]
    exact hEq_rD g1 (by omega) (by omega) (by omega) d'
  · have hfr : ∀ s, M1 12 (56, 0) s = M 12 (56, 0) s := fun s => x 12 (56, 0) s (by unfold rmK scr; simp)
    have hf5 : ∀ s, M1 12 (55, 0) s = M 12 (55, 0) s := fun s => x 12 (55, 0) s (by unfold rmK scr; simp)
    have q1 : rS a b M (gH M 1) := w.1.2.1
    have key : I2 K' a b 8 2 0 56 (hsNext 0 p) (min 8 (c + 1)) (mC (knM M1 c) (55, 0) r) := by
      have hst : ∀ h, rS a b M h → rS a b (mC (knM M1 c) (55, 0) r) h := fun h z => rS_eq (eqO_le x2 (fun k a s z => by unfold fS at z; unfold cgK rmK scr; omega)) (by omega) (by omega) z
      refine I2_push2 hK w.2.1.1 (by omega) w.1.1 w.1.2.1 w.1.2.2 ?_ ?_ ?_ ?_ ?_ hst
      · rw [k2 2 (by decide) (by decide)]; exact c1
      · rw [k2 2 (by decide) (by decide)]; exact c2
      · rw [gg]; exact g2
      · intro i hi1 hi2 hi3
        rw [gg]
        exact eqO_gH x (fun f s hf => by unfold rmK scr; simp; omega) (fun s => by unfold rmK scr; simp; omega)
      · rw [mC_ne (by decide)]
        unfold knM
        rw [jUp_k (by decide), mC_at, show M1 12 (56, 0) = M 12 (56, 0) from funext hfr, show M1 12 (55, 0) = M 12 (55, 0) from funext hf5]
    exact key
  · rw [mC_k (by decide)]
    unfold knM
    rw [jUp_at]
  · have i := w.2.2.1.1
    exact ⟨i.1, i.2.1, fun j hj => by
      obtain ⟨l2, h1, h2⟩ := i.2.2 j hj
      exact ⟨l2, hOk_K h1 hK, h2⟩⟩
  · rw [x2 11 (0, 0) 19 (by unfold cgK rmK scr; simp)]; exact w.2.2.1.2
  · rw [k2 10 (by decide) (by decide)]; exact c10
  · exact gN_eq x2 (fun f s h1 h2 => by unfold cgK rmK scr; simp; omega) (by unfold cgK rmK scr; simp)
  · exact x2 11 (0, 0) 25 (by unfold cgK rmK scr; simp)
  · exact x2 7 (0, 0) 6 (by unfold cgK rmK scr; simp)
  · exact x2 3 (0, 0) 4 (by unfold cgK rmK scr; simp)
theorem rm_17 : s17 M (cgM M p c nv h') := s17_e rm_eqO (fun _ _ => by unfold rmK scr; simp)
theorem kn_17 : s17 M (mC (knM M c) (55, 0) r) := fun a s => by
  rw [mC_k (by decide)]
  unfold knM
  rw [jUp_k (by decide), mC_k (by decide)]
end JCH
