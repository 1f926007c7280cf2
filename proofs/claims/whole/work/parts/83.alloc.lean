/-! the allocations: a closed run, carried over to any script -/
abbrev jW : Type := List (Nat × (jA × (Nat × Int32)))
def wM : jW → jM
  | [] => fun _ _ _ => 0
  | w :: W => jUp (wM W) w.1 w.2.1 w.2.2.1 w.2.2.2
def mrg (Q : Nat → jA → Bool) (X Z : jM) : jM := fun k a s => if Q k a = true then X k a s else Z k a s
def agq (Q : Nat → jA → Bool) (q : Nat) : Bool := match jRefs[q]? with
  | some r => !(Q r.1 r.2)
  | none => false
def ag (Q : Nat → jA → Bool) (q : Nat) (I : Instr) (st : List jV) : Bool := match I with
  | .iconst _ => true
  | .bipush _ => true
  | .sipush _ => true
  | .iload_n _ => true
  | .aload_n _ => true
  | .istore_n _ => true
  | .iinc _ _ => true
  | .dup => true
  | .goto _ => true
  | .ifCond _ _ => true
  | .if_icmp _ _ => true
  | .aastore => true
  | .new _ => agq Q q
  | .newarray _ => agq Q q
  | .anewarray _ => true
  | .invokespecial _ => true
  | .return_ => true
  | .arraylength => match st with
    | .inr (.inr (some r)) :: _ => Nat.ble 12 r.1 && Nat.ble r.1 16
    | _ => false
  | .getfield _ => match st with
    | .inr (.inr (some r)) :: _ => !(Q r.1 r.2)
    | _ => false
  | .putfield _ => match st with
    | .inr _ :: _ => true
    | _ => false
  | _ => false
def setM (M : jM) : jO → jO
  | .inl (pc, (al, (st, (q, (P, _))))) => .inl (pc, (al, (st, (q, (P, M)))))
  | .inr x => .inr x
theorem mrg_k {Q : Nat → jA → Bool} {X Z : jM} {k : Nat} {a : jA} (h : Q k a = false) : mrg Q X Z k a = Z k a := by
  funext s
  exact if_neg (by rw [h]; decide)
theorem mrg_up {Q : Nat → jA → Bool} {X Z : jM} {k s : Nat} {a : jA} {x : Int32} (h : Q k a = false) : jUp (mrg Q X Z) k a s x = mrg Q X (jUp Z k a s x) := by
  funext k' a' s'
  unfold mrg jUp
  by_cases h1 : k' = k ∧ a' = a ∧ s' = s
  · rw [if_pos h1, if_pos h1, if_neg (by rw [h1.1, h1.2.1, h]; decide)]
  · rw [if_neg h1, if_neg h1]
theorem jzero_mrg {Q : Nat → jA → Bool} {X Z : jM} {k n : Nat} {a : jA} (h : Q k a = false) : jzero (mrg Q X Z) k a n = jzero Z k a n := by
  unfold jzero
  rw [mrg_k h]
theorem agq_ok {Q : Nat → jA → Bool} {q : Nat} {r : jR} (h : agq Q q = true) (hr : jRefs[q]? = some r) : Q r.1 r.2 = false := by
  unfold agq at h
  rw [hr] at h
  cases e : Q r.1 r.2 with
  | false => rfl
  | true =>
    dsimp only at h
    rw [e] at h
    cases h
section JAL
variable {Q : Nat → jA → Bool} {X Z : jM} {m pc n q : Nat} {al : jL} {st : List jV} {P : List (jR × Nat)}
theorem jbr_set {M : jM} {off : Int} {c : Prop} [Decidable c] : jbr pc n al st (q, (P, M)) off c = (jbr pc n al st (q, (P, Z)) off c).map (setM M) := by
  unfold jbr
  by_cases h : 0 ≤ (pc : Int) + off ∧ n = 3
  · rw [if_pos h, if_pos h]; rfl
  · rw [if_neg h, if_neg h]; rfl
theorem jinv_set {M : jM} {i : Nat} {I : Instr} : jinv m i n st I = (jinv m i n st I).map (setM M) := by
  unfold jinv
  repeat' split
  all_goals rfl
theorem ag_ok (I : Instr) (h : ag Q q I st = true) : jexe m pc n al st (q, (P, mrg Q X Z)) I = (jexe m pc n al st (q, (P, Z)) I).map (setM (mrg Q X Z)) := by
  cases I
  case iconst => rfl
  case bipush => simp only [jexe]; split <;> rfl
  case sipush => simp only [jexe]; split <;> rfl
  case iload_n => simp only [jexe]; split <;> rfl
  case aload_n => simp only [jexe]; split <;> rfl
  case istore_n => simp only [jexe]; repeat' split
                   all_goals rfl
  case iinc => simp only [jexe]; repeat' split
               all_goals rfl
  case dup => simp only [jexe]; repeat' split
              all_goals rfl
  case goto => simp only [jexe]; repeat' split
               all_goals rfl
  case ifCond c off =>
    simp only [jexe]
    split
    · cases c <;> exact jbr_set
    · rfl
  case if_icmp c off =>
    simp only [jexe]
    split
    · cases c <;> exact jbr_set
    · rfl
  case aastore => simp only [jexe]; repeat' split
                  all_goals rfl
  case new i =>
    simp only [jexe]
    split
    · rename_i k r _ hr
      have hq := agq_ok (r := r) (show agq Q q = true from h) hr
      by_cases hk : r.1 = k
      · subst hk
        rw [jzero_mrg hq]
        split <;> rfl
      · rw [if_neg (fun z => hk z.1), if_neg (fun z => hk z.1)]
        rfl
    · rfl
  case newarray t =>
    simp only [jexe]
    split
    · rename_i x st' r hr
      have hq := agq_ok (r := r) (show agq Q q = true from h) hr
      rw [jzero_mrg hq]
      split <;> rfl
    · rfl
  case anewarray i => simp only [jexe]; repeat' split
                      all_goals rfl
  case invokespecial i =>
    simp only [jexe]
    split
    · repeat' split
      all_goals rfl
    · exact jinv_set
  case return_ => simp only [jexe]; repeat' split
                  all_goals rfl
  case arraylength =>
    simp only [jexe]
    split
    · rename_i r _
      have h2 : 12 ≤ r.1 ∧ r.1 ≤ 16 := by
        simp only [ag, Bool.and_eq_true, Nat.ble_eq] at h
        exact h
      rw [if_pos h2, if_pos h2]
      rfl
    · rfl
  case getfield i =>
    simp only [jexe]
    split
    · rename_i k s _
      split
      · rename_i r _
        have h2 : Q r.1 r.2 = false := by
          simp only [ag] at h
          cases e : Q r.1 r.2 with
          | false => rfl
          | true => rw [e] at h; cases h
        by_cases hk : r.1 = k
        · subst hk
          rw [if_pos rfl, if_pos rfl]
          split
          · split <;> rfl
          · rw [mrg_k h2]; rfl
        · rw [if_neg hk, if_neg hk]; rfl
      · rfl
    · rfl
  case putfield i =>
    simp only [jexe]
    split
    · split
      · simp [ag] at h
      · split <;> rfl
      · rfl
    · rfl
  all_goals simp [ag] at h
/-- one step of the closed run: the writes are kept in a list -/
def astep (Q : Nat → jA → Bool) (m pc : Nat) (al : jL) (st : List jV) (q : Nat) (P : List (jR × Nat)) (W : jW) : Option (jO × jW) := match jF m pc with
  | some (I, n) => (match I, st with
    | .putfield i, .inl x :: .inr (.inr (some r)) :: st' => (match (jFldT.getD (jOwn m) []).lookup i with
      | some (k, s) => if (r.1 = k ∧ (k < 11 ∧ Q k r.2 = false)) ∧ (jIsRefT.getD k []).getD s false = false then some (.inl (pc + n, (al, (st', (q, (P, wM ((k, (r.2, (s, x))) :: W)))))), (k, (r.2, (s, x))) :: W) else none
      | none => none)
    | _, _ => if ag Q q I st then (jexe m pc n al st (q, (P, wM W)) I).map (fun o => (o, W)) else none)
  | none => none
def arun (Q : Nat → jA → Bool) : Nat → Nat → Nat → Nat → jL → List jV → Nat → List (jR × Nat) → jW → Option (Option jV × (Nat × (List (jR × Nat) × jW)))
  | 0, _, _, _, _, _, _, _, _ => none
  | f + 1, d, m, pc, al, st, q, P, W => match astep Q m pc al st q P W with
    | some (.inl (pc', (al', (st', (q', (P', _))))), W') => arun Q f d m pc' al' st' q' P' W'
    | some (.inr (.inl (m', (as, rest))), _) => (match d with
      | 0 => none
      | d' + 1 => match arun Q f d' m' 0 (jent m' as) [] q P W with
        | some (v, (q1, (P1, W1))) => arun Q f (d' + 1) m (pc + 3) al (v.toList ++ rest) q1 P1 W1
        | none => none)
    | some (.inr (.inr v), _) => some (v, (q, (P, W)))
    | none => none
/-- up to a place in the method -/
def apre (Q : Nat → jA → Bool) (stop : Nat) : Nat → Nat → Nat → Nat → jL → List jV → Nat → List (jR × Nat) → jW → Option (jL × (List jV × (Nat × (List (jR × Nat) × jW))))
  | 0, _, _, _, _, _, _, _, _ => none
  | f + 1, d, m, pc, al, st, q, P, W => if pc = stop then some (al, (st, (q, (P, W)))) else match astep Q m pc al st q P W with
    | some (.inl (pc', (al', (st', (q', (P', _))))), W') => apre Q stop f d m pc' al' st' q' P' W'
    | some (.inr (.inl (m', (as, rest))), _) => (match d with
      | 0 => none
      | d' + 1 => match arun Q f d' m' 0 (jent m' as) [] q P W with
        | some (v, (q1, (P1, W1))) => apre Q stop f (d' + 1) m (pc + 3) al (v.toList ++ rest) q1 P1 W1
        | none => none)
    | _ => none
/-- what a step of the closed run says of a step of the machine -/
theorem astep_ok {W W' : jW} {o : jO} (h : astep Q m pc al st q P W = some (o, W')) : ∃ M, jstep m pc al st (q, (P, mrg Q X (wM W))) = some (setM M o) ∧ (∀ fr, o = .inl fr → M = mrg Q X (wM W')) ∧ (∀ y, o = .inr y → W' = W) := by
  unfold astep at h
  unfold jstep
  split at h
  · rename_i I n hF
    rw [hF]
    dsimp only
    split at h
    · rename_i i x r st'
      split at h
      · rename_i k s hl
        split at h
        · rename_i hc
          obtain ⟨rfl, rfl⟩ := Prod.mk.inj (Option.some.inj h)
          refine ⟨mrg Q X (wM ((k, (r.2, (s, x))) :: W)), ?_, fun _ _ => rfl, fun y hy => by cases hy⟩
          simp only [jexe]
          rw [hl]
          dsimp only
          rw [if_pos ⟨hc.1.1, hc.2, fun z => by omega⟩, mrg_up hc.1.2.2]
          rfl
        · cases h
      · cases h
    · split at h
      · rename_i hg
        cases hj : jexe m pc n al st (q, (P, wM W)) I with
        | none => rw [hj] at h; cases h
        | some o' =>
          rw [hj] at h
          obtain ⟨rfl, rfl⟩ := Prod.mk.inj (Option.some.inj h)
          refine ⟨mrg Q X (wM W), ?_, fun _ _ => rfl, fun _ _ => rfl⟩
          rw [ag_ok I hg, hj]
          rfl
      · cases h
  · cases h
theorem arun_ok : ∀ (f d m pc : Nat) (al : jL) (st : List jV) (q : Nat) (P : List (jR × Nat)) (W : jW) (v : Option jV) (q' : Nat) (P' : List (jR × Nat)) (W' : jW), arun Q f d m pc al st q P W = some (v, (q', (P', W'))) → jrun f d m (pc, (al, (st, (q, (P, mrg Q X (wM W)))))) = some (v, (q', (P', mrg Q X (wM W')))) := by
  intro f
  induction f with
  | zero => intro d m pc al st q P W v q' P' W' h; cases h
  | succ f ih =>
    intro d m pc al st q P W v q' P' W' h
    rw [arun] at h
    rw [jrun]
    split at h
    · rename_i pc1 al1 st1 q1 P1 M1 W1 hs
      obtain ⟨M, h1, h2, _⟩ := astep_ok (X := X) hs
      rw [h1]
      rw [h2 _ rfl]
      exact ih _ _ _ _ _ _ _ _ _ _ _ _ h
    · rename_i m1 as rest W1 hs
      obtain ⟨M, h1, _, h3⟩ := astep_ok (X := X) hs
      rw [h1]
      cases d with
      | zero => cases h
      | succ d' =>
        dsimp only [setM] at h ⊢
        split at h
        · rename_i v1 q1 P1 W2 hr
          rw [ih _ _ _ _ _ _ _ _ _ _ _ _ hr]
          exact ih _ _ _ _ _ _ _ _ _ _ _ _ h
        · cases h
    · rename_i v1 W1 hs
      obtain ⟨M, h1, _, _⟩ := astep_ok (X := X) hs
      rw [h1]
      obtain ⟨rfl, h4⟩ := Prod.mk.inj (Option.some.inj h)
      obtain ⟨rfl, h5⟩ := Prod.mk.inj h4
      obtain ⟨rfl, rfl⟩ := Prod.mk.inj h5
      rfl
    · cases h
theorem apre_ok {stop : Nat} : ∀ (f d m pc : Nat) (al : jL) (st : List jV) (q : Nat) (P : List (jR × Nat)) (W : jW) (al' : jL) (st' : List jV) (q' : Nat) (P' : List (jR × Nat)) (W' : jW), apre Q stop f d m pc al st q P W = some (al', (st', (q', (P', W')))) → ∀ (v : Option jV) (σ' : jS), jE d m pc al st (q, (P, mrg Q X (wM W))) v σ' ↔ jE d m stop al' st' (q', (P', mrg Q X (wM W'))) v σ' := by
  intro f
  induction f with
  | zero => intro d m pc al st q P W al' st' q' P' W' h; cases h
  | succ f ih =>
    intro d m pc al st q P W al' st' q' P' W' h v σ'
    rw [apre] at h
    split at h
    · rename_i hp
      obtain ⟨rfl, h4⟩ := Prod.mk.inj (Option.some.inj h)
      obtain ⟨rfl, h5⟩ := Prod.mk.inj h4
      obtain ⟨rfl, h6⟩ := Prod.mk.inj h5
      obtain ⟨rfl, rfl⟩ := Prod.mk.inj h6
      rw [hp]
    · split at h
      · rename_i pc1 al1 st1 q1 P1 M1 W1 hs
        obtain ⟨M, h1, h2, _⟩ := astep_ok (X := X) hs
        rw [h2 _ rfl] at h1
        rw [jE_next h1]
        exact ih _ _ _ _ _ _ _ _ _ _ _ _ _ h v σ'
      · rename_i m1 as rest W1 hs
        obtain ⟨M, h1, _, _⟩ := astep_ok (X := X) hs
        cases d with
        | zero => cases h
        | succ d' =>
          dsimp only at h
          split at h
          · rename_i v1 q1 P1 W2 hr
            rw [jE_call h1, jcl_of (⟨f, arun_ok _ _ _ _ _ _ _ _ _ _ _ _ _ hr⟩ : jE d' m1 0 (jent m1 as) [] (q, (P, mrg Q X (wM W))) v1 (q1, (P1, mrg Q X (wM W2))))]
            exact ih _ _ _ _ _ _ _ _ _ _ _ _ _ h v σ'
          · cases h
      · cases h
end JAL
