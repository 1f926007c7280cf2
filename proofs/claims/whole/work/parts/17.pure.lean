/-! runs of the pure machine, as equivalences: one a kind of instruction -/
theorem jrun_succ : ∀ (f d m : Nat) (fr : jFr) (x : Option jV × jS), jrun f d m fr = some x → jrun (f + 1) d m fr = some x := by
  intro f
  induction f with
  | zero => intro d m fr x h; obtain ⟨pc, al, st, σ⟩ := fr; simp [jrun] at h
  | succ f ih =>
    intro d m fr x h
    obtain ⟨pc, al, st, σ⟩ := fr
    rw [jrun] at h ⊢
    cases hx : jstep m pc al st σ with
    | none => rw [hx] at h; cases h
    | some o =>
      rw [hx] at h
      rcases o with fr' | ⟨m', as, rest⟩ | v1
      · exact ih _ _ _ _ h
      · cases d with
        | zero => cases h
        | succ d =>
          dsimp only at h ⊢
          cases hq : jrun f d m' (0, (jent m' as, ([], σ))) with
          | none => rw [hq] at h; cases h
          | some q =>
            rw [hq] at h
            rw [ih _ _ _ _ hq]
            exact ih _ _ _ _ h
      · exact h
theorem jrun_le {f f' d m : Nat} {fr : jFr} {x : Option jV × jS} (hf : f ≤ f') (h : jrun f d m fr = some x) : jrun f' d m fr = some x := by
  induction f' with
  | zero => rw [show f = 0 by omega] at h; exact h
  | succ k ih =>
    by_cases e : f = k + 1
    · rw [← e]; exact h
    · exact jrun_succ _ _ _ _ _ (ih (by omega))
section JPURE
variable {d m pc n : Nat} {al al' : jL} {st st' : List jV} {σ σ1 σ' : jS} {v : Option jV} {pc' : Nat}
theorem jE_next (h : jstep m pc al st σ = some (.inl (pc', (al', (st', σ1))))) : jE d m pc al st σ v σ' ↔ jE d m pc' al' st' σ1 v σ' := by
  constructor
  · rintro ⟨f, hf⟩
    cases f with
    | zero => simp [jrun] at hf
    | succ f =>
      rw [jrun, h] at hf
      exact ⟨f, hf⟩
  · rintro ⟨f, hf⟩
    refine ⟨f + 1, ?_⟩
    rw [jrun, h]
    exact hf
theorem jE_call {m' : Nat} {as rest : List jV} (h : jstep m pc al st σ = some (.inr (.inl (m', (as, rest))))) : jE (d + 1) m pc al st σ v σ' ↔ ∃ (v1 : Option jV) (σ1 : jS), jE d m' 0 (jent m' as) [] σ v1 σ1 ∧ jE (d + 1) m (pc + 3) al (v1.toList ++ rest) σ1 v σ' := by
  constructor
  · rintro ⟨f, hf⟩
    cases f with
    | zero => simp [jrun] at hf
    | succ f =>
      rw [jrun, h] at hf
      dsimp only at hf
      split at hf
      · cases hf
      · rename_i v1 σ1 q
        exact ⟨v1, σ1, ⟨f, q⟩, ⟨f, hf⟩⟩
  · rintro ⟨v1, σ1, ⟨f1, h1⟩, ⟨f2, h2⟩⟩
    refine ⟨max f1 f2 + 1, ?_⟩
    rw [jrun, h]
    dsimp only
    rw [jrun_le (Nat.le_max_left f1 f2) h1]
    exact jrun_le (Nat.le_max_right f1 f2) h2
theorem jE_ret {v0 : Option jV} (h : jstep m pc al st σ = some (.inr (.inr v0))) : jE d m pc al st σ v σ' ↔ v = v0 ∧ σ' = σ := by
  constructor
  · rintro ⟨f, hf⟩
    cases f with
    | zero => simp [jrun] at hf
    | succ f =>
      rw [jrun, h] at hf
      cases hf
      exact ⟨rfl, rfl⟩
  · rintro ⟨rfl, rfl⟩
    exact ⟨1, by rw [jrun, h]⟩
theorem jE_stuck (h : jstep m pc al st σ = none) : jE d m pc al st σ v σ' ↔ False := by
  constructor
  · rintro ⟨f, hf⟩
    cases f with
    | zero => simp [jrun] at hf
    | succ f =>
      rw [jrun, h] at hf
      cases hf
  · exact False.elim
theorem jE_det {v2 : Option jV} {σ2 : jS} (h1 : jE d m pc al st σ v σ') (h2 : jE d m pc al st σ v2 σ2) : v = v2 ∧ σ' = σ2 := by
  obtain ⟨f1, h1⟩ := h1
  obtain ⟨f2, h2⟩ := h2
  have e1 := jrun_le (Nat.le_max_left f1 f2) h1
  have e2 := jrun_le (Nat.le_max_right f1 f2) h2
  have e := Option.some.inj (e1.symm.trans e2)
  exact ⟨(Prod.mk.inj e).1, (Prod.mk.inj e).2⟩
theorem jE_iff {v0 : Option jV} {σ0 : jS} (h : jE d m pc al st σ v0 σ0) : jE d m pc al st σ v σ' ↔ v = v0 ∧ σ' = σ0 := by
  constructor
  · intro h1
    exact jE_det h1 h
  · rintro ⟨rfl, rfl⟩
    exact h
theorem jE_ite {c : Prop} [Decidable c] {p q : Nat} : jE d m (if c then p else q) al st σ v σ' ↔ if c then jE d m p al st σ v σ' else jE d m q al st σ v σ' := by
  by_cases h : c
  · rw [if_pos h, if_pos h]
  · rw [if_neg h, if_neg h]
theorem jcall_eq {P : Option jV → jS → Prop} {a : Option jV} {b : jS} : (∃ (v1 : Option jV) (s1 : jS), (v1 = a ∧ s1 = b) ∧ P v1 s1) ↔ P a b := by
  constructor
  · rintro ⟨v1, s1, ⟨rfl, rfl⟩, h⟩
    exact h
  · intro h
    exact ⟨a, b, ⟨rfl, rfl⟩, h⟩
theorem jst_of {I : Instr} (hF : jF m pc = some (I, n)) : jstep m pc al st σ = jexe m pc n al st σ I := by
  unfold jstep
  rw [hF]
end JPURE
section JG
variable {d m pc nx n tg : Nat} {al : jL} {st : List jV} {σ σ' : jS} {v : Option jV} {x y z : Int32} {k h : Int64} {o : Option jR} {a b : jA} {P : List (jR × Nat)} {M : jM} {off : Int} {i kk s : Nat}
theorem jg_idiv (hF : jF m pc = some (.idiv, 1)) : jE d m pc al (.inl y :: .inl x :: st) σ v σ' ↔ (¬ y = 0 ∧ jE d m (pc + 1) al (.inl (x / y) :: st) σ v σ') := by
  by_cases e : y = 0
  · exact (jE_stuck (by rw [jst_of hF]; simp only [jexe]; rw [if_pos e])).trans ⟨fun h => h.elim, fun h => h.1 e⟩
  · exact (jE_next (by rw [jst_of hF]; simp only [jexe]; rw [if_neg e])).trans ⟨fun h => ⟨e, h⟩, fun h => h.2⟩
theorem jg_irem (hF : jF m pc = some (.irem, 1)) : jE d m pc al (.inl y :: .inl x :: st) σ v σ' ↔ (¬ y = 0 ∧ jE d m (pc + 1) al (.inl (x % y) :: st) σ v σ') := by
  by_cases e : y = 0
  · exact (jE_stuck (by rw [jst_of hF]; simp only [jexe]; rw [if_pos e])).trans ⟨fun h => h.elim, fun h => h.1 e⟩
  · exact (jE_next (by rw [jst_of hF]; simp only [jexe]; rw [if_neg e])).trans ⟨fun h => ⟨e, h⟩, fun h => h.2⟩
theorem jg_lrem (hF : jF m pc = some (.lrem, 1)) : jE d m pc al (.inr (.inl h) :: .inr (.inl k) :: st) σ v σ' ↔ (¬ h = 0 ∧ jE d m (pc + 1) al (.inr (.inl (k % h)) :: st) σ v σ') := by
  by_cases e : h = 0
  · exact (jE_stuck (by rw [jst_of hF]; simp only [jexe]; rw [if_pos e])).trans ⟨fun h => h.elim, fun h => h.1 e⟩
  · exact (jE_next (by rw [jst_of hF]; simp only [jexe]; rw [if_neg e])).trans ⟨fun h => ⟨e, h⟩, fun h => h.2⟩
theorem jg_ifCond_eq (hF : jF m pc = some (.ifCond .eq off, 3)) (h0 : 0 ≤ (pc : Int) + off) (ht : jTg pc off = tg) (hn : pc + 3 = nx) : jE d m pc al (.inl x :: st) σ v σ' ↔ (if x = 0 then jE d m tg al st σ v σ' else jE d m nx al st σ v σ') := by
  subst ht; subst hn
  refine Iff.trans (jE_next ?_) jE_ite
  rw [jst_of hF]
  show jbr pc 3 al st σ off (x = 0) = _
  unfold jbr
  rw [if_pos ⟨h0, rfl⟩]
theorem jg_ifCond_ne (hF : jF m pc = some (.ifCond .ne off, 3)) (h0 : 0 ≤ (pc : Int) + off) (ht : jTg pc off = tg) (hn : pc + 3 = nx) : jE d m pc al (.inl x :: st) σ v σ' ↔ (if ¬ x = 0 then jE d m tg al st σ v σ' else jE d m nx al st σ v σ') := by
  subst ht; subst hn
  refine Iff.trans (jE_next ?_) jE_ite
  rw [jst_of hF]
  show jbr pc 3 al st σ off (¬ x = 0) = _
  unfold jbr
  rw [if_pos ⟨h0, rfl⟩]
theorem jg_ifCond_lt (hF : jF m pc = some (.ifCond .lt off, 3)) (h0 : 0 ≤ (pc : Int) + off) (ht : jTg pc off = tg) (hn : pc + 3 = nx) : jE d m pc al (.inl x :: st) σ v σ' ↔ (if x < 0 then jE d m tg al st σ v σ' else jE d m nx al st σ v σ') := by
  subst ht; subst hn
  refine Iff.trans (jE_next ?_) jE_ite
  rw [jst_of hF]
  show jbr pc 3 al st σ off (x < 0) = _
  unfold jbr
  rw [if_pos ⟨h0, rfl⟩]
theorem jg_ifCond_ge (hF : jF m pc = some (.ifCond .ge off, 3)) (h0 : 0 ≤ (pc : Int) + off) (ht : jTg pc off = tg) (hn : pc + 3 = nx) : jE d m pc al (.inl x :: st) σ v σ' ↔ (if 0 ≤ x then jE d m tg al st σ v σ' else jE d m nx al st σ v σ') := by
  subst ht; subst hn
  refine Iff.trans (jE_next ?_) jE_ite
  rw [jst_of hF]
  show jbr pc 3 al st σ off (0 ≤ x) = _
  unfold jbr
  rw [if_pos ⟨h0, rfl⟩]
theorem jg_ifCond_gt (hF : jF m pc = some (.ifCond .gt off, 3)) (h0 : 0 ≤ (pc : Int) + off) (ht : jTg pc off = tg) (hn : pc + 3 = nx) : jE d m pc al (.inl x :: st) σ v σ' ↔ (if 0 < x then jE d m tg al st σ v σ' else jE d m nx al st σ v σ') := by
  subst ht; subst hn
  refine Iff.trans (jE_next ?_) jE_ite
  rw [jst_of hF]
  show jbr pc 3 al st σ off (0 < x) = _
  unfold jbr
  rw [if_pos ⟨h0, rfl⟩]
theorem jg_ifCond_le (hF : jF m pc = some (.ifCond .le off, 3)) (h0 : 0 ≤ (pc : Int) + off) (ht : jTg pc off = tg) (hn : pc + 3 = nx) : jE d m pc al (.inl x :: st) σ v σ' ↔ (if x ≤ 0 then jE d m tg al st σ v σ' else jE d m nx al st σ v σ') := by
  subst ht; subst hn
  refine Iff.trans (jE_next ?_) jE_ite
  rw [jst_of hF]
  show jbr pc 3 al st σ off (x ≤ 0) = _
  unfold jbr
  rw [if_pos ⟨h0, rfl⟩]
theorem jg_if_icmp_eq (hF : jF m pc = some (.if_icmp .eq off, 3)) (h0 : 0 ≤ (pc : Int) + off) (ht : jTg pc off = tg) (hn : pc + 3 = nx) : jE d m pc al (.inl y :: .inl x :: st) σ v σ' ↔ (if x = y then jE d m tg al st σ v σ' else jE d m nx al st σ v σ') := by
  subst ht; subst hn
  refine Iff.trans (jE_next ?_) jE_ite
  rw [jst_of hF]
  show jbr pc 3 al st σ off (x = y) = _
  unfold jbr
  rw [if_pos ⟨h0, rfl⟩]
theorem jg_if_icmp_ne (hF : jF m pc = some (.if_icmp .ne off, 3)) (h0 : 0 ≤ (pc : Int) + off) (ht : jTg pc off = tg) (hn : pc + 3 = nx) : jE d m pc al (.inl y :: .inl x :: st) σ v σ' ↔ (if ¬ x = y then jE d m tg al st σ v σ' else jE d m nx al st σ v σ') := by
  subst ht; subst hn
  refine Iff.trans (jE_next ?_) jE_ite
  rw [jst_of hF]
  show jbr pc 3 al st σ off (¬ x = y) = _
  unfold jbr
  rw [if_pos ⟨h0, rfl⟩]
theorem jg_if_icmp_lt (hF : jF m pc = some (.if_icmp .lt off, 3)) (h0 : 0 ≤ (pc : Int) + off) (ht : jTg pc off = tg) (hn : pc + 3 = nx) : jE d m pc al (.inl y :: .inl x :: st) σ v σ' ↔ (if x < y then jE d m tg al st σ v σ' else jE d m nx al st σ v σ') := by
  subst ht; subst hn
  refine Iff.trans (jE_next ?_) jE_ite
  rw [jst_of hF]
  show jbr pc 3 al st σ off (x < y) = _
  unfold jbr
  rw [if_pos ⟨h0, rfl⟩]
theorem jg_if_icmp_ge (hF : jF m pc = some (.if_icmp .ge off, 3)) (h0 : 0 ≤ (pc : Int) + off) (ht : jTg pc off = tg) (hn : pc + 3 = nx) : jE d m pc al (.inl y :: .inl x :: st) σ v σ' ↔ (if y ≤ x then jE d m tg al st σ v σ' else jE d m nx al st σ v σ') := by
  subst ht; subst hn
  refine Iff.trans (jE_next ?_) jE_ite
  rw [jst_of hF]
  show jbr pc 3 al st σ off (y ≤ x) = _
  unfold jbr
  rw [if_pos ⟨h0, rfl⟩]
theorem jg_if_icmp_gt (hF : jF m pc = some (.if_icmp .gt off, 3)) (h0 : 0 ≤ (pc : Int) + off) (ht : jTg pc off = tg) (hn : pc + 3 = nx) : jE d m pc al (.inl y :: .inl x :: st) σ v σ' ↔ (if y < x then jE d m tg al st σ v σ' else jE d m nx al st σ v σ') := by
  subst ht; subst hn
  refine Iff.trans (jE_next ?_) jE_ite
  rw [jst_of hF]
  show jbr pc 3 al st σ off (y < x) = _
  unfold jbr
  rw [if_pos ⟨h0, rfl⟩]
theorem jg_if_icmp_le (hF : jF m pc = some (.if_icmp .le off, 3)) (h0 : 0 ≤ (pc : Int) + off) (ht : jTg pc off = tg) (hn : pc + 3 = nx) : jE d m pc al (.inl y :: .inl x :: st) σ v σ' ↔ (if x ≤ y then jE d m tg al st σ v σ' else jE d m nx al st σ v σ') := by
  subst ht; subst hn
  refine Iff.trans (jE_next ?_) jE_ite
  rw [jst_of hF]
  show jbr pc 3 al st σ off (x ≤ y) = _
  unfold jbr
  rw [if_pos ⟨h0, rfl⟩]
theorem jg_ifnull (hF : jF m pc = some (.ifnull off, 3)) (h0 : 0 ≤ (pc : Int) + off) (ht : jTg pc off = tg) (hn : pc + 3 = nx) : jE d m pc al (.inr (.inr o) :: st) σ v σ' ↔ (if o = none then jE d m tg al st σ v σ' else jE d m nx al st σ v σ') := by
  subst ht; subst hn
  cases o with
  | none =>
    rw [if_pos rfl]
    refine jE_next ?_
    rw [jst_of hF]
    show jbr pc 3 al st σ off True = _
    unfold jbr
    rw [if_pos ⟨h0, rfl⟩, if_pos trivial]
  | some r =>
    rw [if_neg (fun z => by cases z)]
    refine jE_next ?_
    rw [jst_of hF]
    show jbr pc 3 al st σ off False = _
    unfold jbr
    rw [if_pos ⟨h0, rfl⟩, if_neg (fun z => z)]
theorem jg_ifnonnull (hF : jF m pc = some (.ifnonnull off, 3)) (h0 : 0 ≤ (pc : Int) + off) (ht : jTg pc off = tg) (hn : pc + 3 = nx) : jE d m pc al (.inr (.inr o) :: st) σ v σ' ↔ (if o = none then jE d m nx al st σ v σ' else jE d m tg al st σ v σ') := by
  subst ht; subst hn
  cases o with
  | none =>
    rw [if_pos rfl]
    refine jE_next ?_
    rw [jst_of hF]
    show jbr pc 3 al st σ off False = _
    unfold jbr
    rw [if_pos ⟨h0, rfl⟩, if_neg (fun z => z)]
  | some r =>
    rw [if_neg (fun z => by cases z)]
    refine jE_next ?_
    rw [jst_of hF]
    show jbr pc 3 al st σ off True = _
    unfold jbr
    rw [if_pos ⟨h0, rfl⟩, if_pos trivial]
theorem jg_put (hF : jF m pc = some (.putfield i, 3)) (hl : (jFldT.getD (jOwn m) []).lookup i = some (kk, s)) (hr : (jIsRefT.getD kk []).getD s false = false) (hz : ¬ (kk = 11 ∧ s = 14)) : jE d m pc al (.inl x :: .inr (.inr (some (kk, a))) :: st) (n, (P, M)) v σ' ↔ jE d m (pc + 3) al st (n, (P, jUp M kk a s x)) v σ' := by
  exact jE_next (by rw [jst_of hF]; simp only [jexe]; rw [hl]; dsimp only; rw [if_pos ⟨rfl, hr, fun z => absurd z hz⟩])
theorem jg_putZ (hF : jF m pc = some (.putfield i, 3)) (hl : (jFldT.getD (jOwn m) []).lookup i = some (11, 14)) (hr : (jIsRefT.getD 11 []).getD 14 false = false) : jE d m pc al (.inl x :: .inr (.inr (some (11, a))) :: st) (n, (P, M)) v σ' ↔ ((x = 0 ∨ x = 1) ∧ jE d m (pc + 3) al st (n, (P, jUp M 11 a 14 x)) v σ') := by
  by_cases e : x = 0 ∨ x = 1
  · exact (jE_next (by rw [jst_of hF]; simp only [jexe]; rw [hl]; dsimp only; rw [if_pos ⟨rfl, hr, fun _ => e⟩])).trans ⟨fun h => ⟨e, h⟩, fun h => h.2⟩
  · exact (jE_stuck (by rw [jst_of hF]; simp only [jexe]; rw [hl]; dsimp only; rw [if_neg (fun z => e (z.2.2 ⟨rfl, rfl⟩))])).trans ⟨fun h => h.elim, fun h => e h.1⟩
theorem jg_iaload (hF : jF m pc = some (.iaload, 1)) : jE d m pc al (.inl x :: .inr (.inr (some (12, a))) :: st) (n, (P, M)) v σ' ↔ ((0 ≤ x ∧ x.toNatClampNeg < jLen 12 a) ∧ jE d m (pc + 1) al (.inl (M 12 a x.toNatClampNeg) :: st) (n, (P, M)) v σ') := by
  by_cases e : 0 ≤ x ∧ x.toNatClampNeg < jLen 12 a
  · exact (jE_next (by rw [jst_of hF]; simp only [jexe, if_true]; rw [if_pos e])).trans ⟨fun h => ⟨e, h⟩, fun h => h.2⟩
  · exact (jE_stuck (by rw [jst_of hF]; simp only [jexe, if_true]; rw [if_neg e])).trans ⟨fun h => h.elim, fun h => e h.1⟩
theorem jg_scrld (hF : jF m pc = some (.iaload, 1)) : jE d m pc al (.inl x :: .inr (.inr (some (17, (0, 0)))) :: st) (n, (P, M)) v σ' ↔ ((0 ≤ x ∧ x.toNatClampNeg < (jSL M).toNatClampNeg) ∧ jE d m (pc + 1) al (.inl (M 17 (0, 0) x.toNatClampNeg) :: st) (n, (P, M)) v σ') := by
  by_cases e : 0 ≤ x ∧ x.toNatClampNeg < (jSL M).toNatClampNeg
  · exact (jE_next (by rw [jst_of hF]; simp only [jexe]; rw [if_neg (by decide), if_pos trivial, if_pos e])).trans ⟨fun h => ⟨e, h⟩, fun h => h.2⟩
  · exact (jE_stuck (by rw [jst_of hF]; simp only [jexe]; rw [if_neg (by decide), if_pos trivial, if_neg e])).trans ⟨fun h => h.elim, fun h => e h.1⟩
theorem jg_baload (hF : jF m pc = some (.baload, 1)) (hk : kk = 13 ∨ kk = 14) : jE d m pc al (.inl x :: .inr (.inr (some (kk, a))) :: st) (n, (P, M)) v σ' ↔ ((0 ≤ x ∧ x.toNatClampNeg < jLen kk a) ∧ jE d m (pc + 1) al (.inl (M kk a x.toNatClampNeg) :: st) (n, (P, M)) v σ') := by
  by_cases e : 0 ≤ x ∧ x.toNatClampNeg < jLen kk a
  · exact (jE_next (by rw [jst_of hF]; simp only [jexe]; rw [if_pos ⟨hk, e⟩])).trans ⟨fun h => ⟨e, h⟩, fun h => h.2⟩
  · exact (jE_stuck (by rw [jst_of hF]; simp only [jexe]; rw [if_neg (fun z => e z.2)])).trans ⟨fun h => h.elim, fun h => e h.1⟩
theorem jg_iastore (hF : jF m pc = some (.iastore, 1)) : jE d m pc al (.inl y :: .inl x :: .inr (.inr (some (12, a))) :: st) (n, (P, M)) v σ' ↔ ((0 ≤ x ∧ x.toNatClampNeg < jLen 12 a) ∧ jE d m (pc + 1) al st (n, (P, jUp M 12 a x.toNatClampNeg y)) v σ') := by
  by_cases e : 0 ≤ x ∧ x.toNatClampNeg < jLen 12 a
  · exact (jE_next (by rw [jst_of hF]; simp only [jexe]; rw [if_pos ⟨trivial, e⟩])).trans ⟨fun h => ⟨e, h⟩, fun h => h.2⟩
  · exact (jE_stuck (by rw [jst_of hF]; simp only [jexe]; rw [if_neg (fun z => e z.2)])).trans ⟨fun h => h.elim, fun h => e h.1⟩
theorem jg_bastore13 (hF : jF m pc = some (.bastore, 1)) : jE d m pc al (.inl y :: .inl x :: .inr (.inr (some (13, a))) :: st) (n, (P, M)) v σ' ↔ (((y = 0 ∨ y = 1) ∧ 0 ≤ x ∧ x.toNatClampNeg < jLen 13 a) ∧ jE d m (pc + 1) al st (n, (P, jUp M 13 a x.toNatClampNeg y)) v σ') := by
  by_cases e : (y = 0 ∨ y = 1) ∧ 0 ≤ x ∧ x.toNatClampNeg < jLen 13 a
  · exact (jE_next (by rw [jst_of hF]; simp only [jexe]; rw [if_pos ⟨Or.inl ⟨trivial, e.1⟩, e.2⟩])).trans ⟨fun h => ⟨e, h⟩, fun h => h.2⟩
  · exact (jE_stuck (by rw [jst_of hF]; simp only [jexe]; rw [if_neg (fun z => e ⟨by rcases z.1 with q | q <;> first | exact q.2 | exact absurd q.1 (by decide), z.2⟩)])).trans ⟨fun h => h.elim, fun h => e h.1⟩
theorem jg_bastore14 (hF : jF m pc = some (.bastore, 1)) : jE d m pc al (.inl y :: .inl x :: .inr (.inr (some (14, a))) :: st) (n, (P, M)) v σ' ↔ ((y.toInt8.toInt32 = y ∧ 0 ≤ x ∧ x.toNatClampNeg < jLen 14 a) ∧ jE d m (pc + 1) al st (n, (P, jUp M 14 a x.toNatClampNeg y)) v σ') := by
  by_cases e : y.toInt8.toInt32 = y ∧ 0 ≤ x ∧ x.toNatClampNeg < jLen 14 a
  · exact (jE_next (by rw [jst_of hF]; simp only [jexe]; rw [if_pos ⟨Or.inr ⟨trivial, e.1⟩, e.2⟩])).trans ⟨fun h => ⟨e, h⟩, fun h => h.2⟩
  · exact (jE_stuck (by rw [jst_of hF]; simp only [jexe]; rw [if_neg (fun z => e ⟨by rcases z.1 with q | q <;> first | exact q.2 | exact absurd q.1 (by decide), z.2⟩)])).trans ⟨fun h => h.elim, fun h => e h.1⟩
theorem jg_aaload (hF : jF m pc = some (.aaload, 1)) (hk : kk = 15 ∨ kk = 16) : jE d m pc al (.inl x :: .inr (.inr (some (kk, a))) :: st) (n, ([], M)) v σ' ↔ ((0 ≤ x ∧ x.toNatClampNeg < jLen kk a) ∧ jE d m (pc + 1) al (.inr (.inr (some (jrf kk a x.toNatClampNeg))) :: st) (n, ([], M)) v σ') := by
  by_cases e : 0 ≤ x ∧ x.toNatClampNeg < jLen kk a
  · exact (jE_next (by rw [jst_of hF]; simp only [jexe]; rw [if_pos ⟨hk, e⟩]; rfl)).trans ⟨fun h => ⟨e, h⟩, fun h => h.2⟩
  · exact (jE_stuck (by rw [jst_of hF]; simp only [jexe]; rw [if_neg (fun z => e z.2)])).trans ⟨fun h => h.elim, fun h => e h.1⟩
theorem jg_copy (hF : jF m pc = some (.invokestatic i, 3)) (hl : (jMthT.getD (jOwn m) []).lookup i = some 900) : jE d m pc al (.inl z :: .inl y :: .inr (.inr (some (12, b))) :: .inl x :: .inr (.inr (some (12, a))) :: []) (n, (P, M)) v σ' ↔ ((0 ≤ x ∧ 0 ≤ y ∧ 0 ≤ z ∧ x.toNatClampNeg + z.toNatClampNeg ≤ jLen 12 a ∧ y.toNatClampNeg + z.toNatClampNeg ≤ jLen 12 b) ∧ jE d m (pc + 3) al [] (n, (P, jCp M a b x.toNatClampNeg y.toNatClampNeg z.toNatClampNeg)) v σ') := by
  by_cases e : 0 ≤ x ∧ 0 ≤ y ∧ 0 ≤ z ∧ x.toNatClampNeg + z.toNatClampNeg ≤ jLen 12 a ∧ y.toNatClampNeg + z.toNatClampNeg ≤ jLen 12 b
  · exact (jE_next (by rw [jst_of hF]; simp only [jexe]; rw [hl]; rw [if_pos ⟨by simp, e⟩]; rfl)).trans ⟨fun h => ⟨e, h⟩, fun h => h.2⟩
  · exact (jE_stuck (by rw [jst_of hF]; simp only [jexe]; rw [hl]; rw [if_neg (fun z => e z.2)]; rfl)).trans ⟨fun h => h.elim, fun h => e h.1⟩
theorem jg_zret (hF : jF m pc = some (.ireturn, 1)) (hr : jRetT.getD m none = some .boolean) : jE d m pc al (.inl x :: []) σ v σ' ↔ ((x = 0 ∨ x = 1) ∧ v = some (.inl x) ∧ σ' = σ) := by
  have key : jstep m pc al (.inl x :: []) σ = if jnar (some .boolean) (jI x) = true then some (.inr (.inr (some (jI x)))) else none := by
    rw [jst_of hF, ← hr]
    rfl
  by_cases e : x = 0 ∨ x = 1
  · exact (jE_ret (by rw [key, if_pos (show jnar (some .boolean) (jI x) = true from decide_eq_true e)])).trans ⟨fun h => ⟨e, h⟩, fun h => h.2⟩
  · exact (jE_stuck (by rw [key, if_neg (fun z : jnar (some .boolean) (jI x) = true => e (of_decide_eq_true (show decide (x = 0 ∨ x = 1) = true from z)))])).trans ⟨fun h => h.elim, fun h => e h.1⟩
end JG
