/-! words of the JDK members that are stepped over at once; which fields are final; the array classes -/
theorem jw_nat : Cond.native arraycopyName ∈ jTs := jAt_mem (i := 582) (by decide +kernel)
theorem jw_cst : Cond.static arraycopyName ∈ jTs := jAt_mem (i := 581) (by decide +kernel)
theorem jw_sys : Cond.initialized "java/lang/System" ∈ jTs := jAt_mem (i := 81) (by decide +kernel)
theorem jw_maxS : Cond.static Lib.Math.max.name ∈ jTs := jAt_mem (i := 692) (by decide +kernel)
set_option maxRecDepth 100000 in
theorem jw_maxC : Cond.code Lib.Math.max.name Lib.Math.max.code 2 (some .int) ∈ jTs := List.mem_filter.mpr ⟨List.mem_of_getElem? (i := 693) rfl, rfl⟩
theorem jw_minS : Cond.static Lib.Math.min.name ∈ jTs := jAt_mem (i := 578) (by decide +kernel)
set_option maxRecDepth 100000 in
theorem jw_minC : Cond.code Lib.Math.min.name Lib.Math.min.code 2 (some .int) ∈ jTs := List.mem_filter.mpr ⟨List.mem_of_getElem? (i := 579) rfl, rfl⟩
theorem jw_math : Cond.initialized "java/lang/Math" ∈ jTs := jAt_mem (i := 80) (by decide +kernel)
theorem jw_oinst : Cond.instanceMethod objectInit ∈ jTs := jAt_mem (i := 90) (by decide +kernel)
set_option maxRecDepth 100000 in
theorem jw_ocode : Cond.code objectInit ⟨#[0xb1]⟩ 1 none ∈ jTs := List.mem_filter.mpr ⟨List.mem_of_getElem? (i := 91) rfl, rfl⟩
theorem jw_Aint : Cond.arrayClass .int ∈ jTs := jAt_mem (i := 108) (by decide +kernel)
theorem jw_Aboolean : Cond.arrayClass .boolean ∈ jTs := jAt_mem (i := 1149) (by decide +kernel)
theorem jw_Abyte : Cond.arrayClass .byte ∈ jTs := jAt_mem (i := 617) (by decide +kernel)
def jFinOk (k s : Nat) : Bool := if (jIsRefT.getD k []).getD s false then ((jT k s).2.2.2 && ((jT k s).1 == jC k)) && (match jTy k s with
    | .object _ => true
    | .array _ => true
    | _ => false) else (!(jT k s).2.2.2) && (decide (jTy k s = .int) || (decide (jTy k s = .boolean) && (k == 11 && s == 14)))
theorem jFin_all : ((List.range 12).all fun k => (List.range (jN k)).all fun s => jFinOk k s) = true := by decide +kernel
theorem jfin_num {k s : Nat} (hk : k < 12) (hs : s < jN k) (h : (jIsRefT.getD k []).getD s false = false) : (jT k s).2.2.2 = false ∧ (jTy k s = .int ∨ (jTy k s = .boolean ∧ k = 11 ∧ s = 14)) := by
  have h1 := List.all_eq_true.mp (List.all_eq_true.mp jFin_all k (List.mem_range.mpr hk)) s (List.mem_range.mpr hs)
  unfold jFinOk at h1
  rw [if_neg (by rw [h]; decide)] at h1
  simp only [Bool.and_eq_true, Bool.or_eq_true, decide_eq_true_eq, beq_iff_eq, Bool.not_eq_true'] at h1
  exact h1
theorem jfin_ref {k s : Nat} (hk : k < 12) (hs : s < jN k) (h : (jIsRefT.getD k []).getD s false = true) (a : Nat) : (jT k s).2.2.2 = true ∧ (jT k s).1 = jC k ∧ narrow (jTy k s) (.ref a) = .ref a ∧ fits (jTy k s) (.ref a) = true := by
  have h1 := List.all_eq_true.mp (List.all_eq_true.mp jFin_all k (List.mem_range.mpr hk)) s (List.mem_range.mpr hs)
  unfold jFinOk at h1
  rw [if_pos h] at h1
  simp only [Bool.and_eq_true, beq_iff_eq] at h1
  refine ⟨h1.1.1, h1.1.2, ?_⟩
  have h2 := h1.2
  revert h2
  cases jTy k s <;> intro h2 <;> first | exact ⟨rfl, rfl⟩ | cases h2
