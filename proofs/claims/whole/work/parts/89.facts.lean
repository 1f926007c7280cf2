/-! the tables of 03 against the bytecode and the words of the claim -/
theorem jF_lt {m pc : Nat} {q : Instr × Nat} (h : jF m pc = some q) : m < 200 := by
  rcases Nat.lt_or_ge m 200 with z | z
  · exact z
  · have e : jCodeT.getD m [] = [] := by
      rw [List.getD_eq_getElem?_getD, List.getElem?_eq_none (by exact z)]
      rfl
    rw [jF, e] at h
    simp [List.lookup] at h
theorem jF_dec {m pc n : Nat} {I : Instr} (h : jF m pc = some (I, n)) : decode (jBytesT.getD m .empty) pc = .ok (I, n) := by
  have h1 := jdec_all m (jF_lt h)
  have h2 := jlookup_mem _ _ _ h
  unfold jDecOk at h1
  generalize jCodeT.getD m [] = X at h1 h2
  have h3 : X.getD (pc / 16) [] ∈ X ∨ X.getD (pc / 16) [] = [] := by
    rw [List.getD_eq_getElem?_getD]
    cases hq : X[pc / 16]? with
    | none => exact Or.inr rfl
    | some x => exact Or.inl (List.mem_of_getElem? hq)
  rcases h3 with h3 | h3
  · have h4 := List.all_eq_true.mp (List.all_eq_true.mp h1 _ h3) _ h2
    exact of_decide_eq_true h4
  · rw [h3] at h2
    exact absurd h2 List.not_mem_nil
theorem jRefs_nodup : jRefs.Nodup := by decide +kernel
theorem jRefs_len : jRefs.length = 512 := by decide +kernel
