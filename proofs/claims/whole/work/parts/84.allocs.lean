/-! the allocations, run -/
def aEq (x : Option (Option jV × (Nat × (List (jR × Nat) × jW)))) (v : Option jV) (q : Nat) (W : jW) : Bool := match x with
  | some (v', (q', (P', W'))) => (decide (v' = v) && decide (q' = q)) && (P'.isEmpty && decide (W' = W))
  | none => false
theorem aEq_ok {x : Option (Option jV × (Nat × (List (jR × Nat) × jW)))} {v : Option jV} {q : Nat} {W : jW} (h : aEq x v q W = true) : x = some (v, (q, ([], W))) := by
  unfold aEq at h
  split at h
  · rename_i v' q' P' W'
    simp only [Bool.and_eq_true, decide_eq_true_eq, List.isEmpty_iff] at h
    obtain ⟨⟨rfl, rfl⟩, rfl, rfl⟩ := h
    rfl
  · cases h
def lEq : List (Option jV) → List (Option jV) → Bool
  | [], [] => true
  | x :: xs, y :: ys => decide (x = y) && lEq xs ys
  | _, _ => false
theorem lEq_ok : ∀ (a b : List (Option jV)), lEq a b = true → a = b
  | [], [], _ => rfl
  | x :: xs, y :: ys, h => by
    rw [lEq, Bool.and_eq_true, decide_eq_true_eq] at h
    rw [h.1, lEq_ok xs ys h.2]
  | [], _ :: _, h => by cases h
  | _ :: _, [], h => by cases h
def sEq : List jV → List jV → Bool
  | [], [] => true
  | x :: xs, y :: ys => decide (x = y) && sEq xs ys
  | _, _ => false
theorem sEq_ok : ∀ (a b : List jV), sEq a b = true → a = b
  | [], [], _ => rfl
  | x :: xs, y :: ys, h => by
    rw [sEq, Bool.and_eq_true, decide_eq_true_eq] at h
    rw [h.1, sEq_ok xs ys h.2]
  | [], _ :: _, h => by cases h
  | _ :: _, [], h => by cases h
def pEq (x : Option (jL × (List jV × (Nat × (List (jR × Nat) × jW))))) (al : jL) (st : List jV) (q : Nat) (P : List (jR × Nat)) (W : jW) : Bool := match x with
  | some (al', (st', (q', (P', W')))) => (lEq al' al && sEq st' st) && ((decide (q' = q) && decide (P' = P)) && decide (W' = W))
  | none => false
theorem pEq_ok {x : Option (jL × (List jV × (Nat × (List (jR × Nat) × jW))))} {al : jL} {st : List jV} {q : Nat} {P : List (jR × Nat)} {W : jW} (h : pEq x al st q P W = true) : x = some (al, (st, (q, (P, W)))) := by
  unfold pEq at h
  split at h
  · rename_i al' st' q' P' W'
    rw [Bool.and_eq_true, Bool.and_eq_true, Bool.and_eq_true, Bool.and_eq_true, decide_eq_true_eq, decide_eq_true_eq, decide_eq_true_eq] at h
    rw [lEq_ok _ _ h.1.1, sEq_ok _ _ h.1.2, h.2.1.1, h.2.1.2, h.2.2]
  · cases h
def Q17 (k : Nat) (_ : jA) : Bool := Nat.beq k 17
def QM (k : Nat) (a : jA) : Bool := !((Nat.beq k 11 || Nat.beq k 13) || (Nat.beq k 14 || (Nat.beq k 12 && Nat.ble 40 a.1)))
theorem al_law : pEq (apre Q17 4 10 21 198 0 [some (.inr (.inr (some (17, (0, 0))))), none, none, none] [] 0 [] []) [some (.inr (.inr (some (17, (0, 0))))), none, none, none] [.inr (.inr (some (10, (0, 0)))), .inr (.inr (some (10, (0, 0))))] 1 (jSlots 10 (0, 0)) [] = true := by decide +kernel
theorem al_laws : pEq (apre Q17 117 400 20 89 0 [some (.inr (.inr (some (10, (0, 0))))), none] [] 1 (jSlots 10 (0, 0)) []) [some (.inr (.inr (some (10, (0, 0))))), none] [] 490 [] [(3, ((0, 0), (4, -4))), (7, ((0, 0), (6, -4)))] = true := by decide +kernel
theorem al_law2 : pEq (apre QM 12 10 21 198 8 [some (.inr (.inr (some (17, (0, 0))))), some (.inr (.inr (some (10, (0, 0))))), none, none] [] 490 [] []) [some (.inr (.inr (some (17, (0, 0))))), some (.inr (.inr (some (10, (0, 0))))), none, none] [.inr (.inr (some (11, (0, 0)))), .inr (.inr (some (11, (0, 0))))] 491 (jSlots 11 (0, 0)) [] = true := by decide +kernel
theorem al_model : pEq (apre QM 172 400 20 122 0 [some (.inr (.inr (some (11, (0, 0)))))] [] 491 (jSlots 11 (0, 0)) []) [some (.inr (.inr (some (11, (0, 0)))))] [] 512 [] [] = true := by decide +kernel
