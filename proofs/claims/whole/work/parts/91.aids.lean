/-! one instruction of the pure machine that is no call and no return is one of the machine -/
def jln : Instr → Nat
  | .aload _ | .iload _ | .istore _ | .astore _ | .lload _ | .lstore _ | .bipush _ | .ldc _ | .newarray _ => 2
  | .sipush _ | .ldc_w _ | .ldc2_w _ | .iinc .. | .goto _ | .ifCond .. | .if_icmp .. | .ifnull _ | .ifnonnull _ | .getfield _ | .putfield _ | .invokevirtual _ | .invokespecial _ | .invokestatic _ | .new _ | .anewarray _ => 3
  | .tableswitch .. | .lookupswitch .. => 0
  | _ => 1
theorem jln_all : (jCodeT.all fun x => x.all fun ch => ch.all fun e => jln e.2.1 == 0 || e.2.2 == jln e.2.1) = true := by decide +kernel
theorem jF_ln {m pc n : Nat} {I : Instr} (h : jF m pc = some (I, n)) : jln I = 0 ∨ n = jln I := by
  have h2 := jlookup_mem _ _ _ h
  have h0 : jCodeT.getD m [] ∈ jCodeT := by
    have hl : m < jCodeT.length := by rw [show jCodeT.length = 200 by decide +kernel]; exact jF_lt h
    rw [List.getD_eq_getElem?_getD, List.getElem?_eq_getElem hl]
    exact List.getElem_mem hl
  have h1 := List.all_eq_true.mp jln_all _ h0
  generalize jCodeT.getD m [] = X at h1 h2
  have h3 : X.getD (pc / 16) [] ∈ X ∨ X.getD (pc / 16) [] = [] := by
    rw [List.getD_eq_getElem?_getD]
    cases hq : X[pc / 16]? with
    | none => exact Or.inr rfl
    | some x => exact Or.inl (List.mem_of_getElem? hq)
  rcases h3 with h3 | h3
  · have h4 := List.all_eq_true.mp (List.all_eq_true.mp h1 _ h3) _ h2
    simpa using h4
  · rw [h3] at h2
    exact absurd h2 List.not_mem_nil
abbrev jva (n : Nat) (al : jL) : Prop := ∀ (i : Nat) (v : jV), al[i]? = some (some v) → jokv n v
abbrev jvs (n : Nat) (st : List jV) : Prop := ∀ v ∈ st, jokv n v
theorem jvs_tl {n : Nat} {v : jV} {st : List jV} (h : jvs n (v :: st)) : jvs n st := fun w hw => h w (List.mem_cons_of_mem _ hw)
theorem jvs_cons {n : Nat} {v : jV} {st : List jV} (h1 : jokv n v) (h : jvs n st) : jvs n (v :: st) := fun w hw => by
  rcases List.mem_cons.mp hw with rfl | hw
  · exact h1
  · exact h w hw
theorem jva_st {mm n i : Nat} {al al' : jL} {v : jV} (hs : jst mm al i v = some al') (h : jva n al) (hv : jokv n v) : jva n al' := by
  obtain ⟨h1, -, -, rfl⟩ := jst_spec hs
  intro k w hk
  by_cases e : i = k
  · subst e
    rw [List.getElem?_set_self h1] at hk
    cases hk
    exact hv
  · rw [List.getElem?_set_ne e] at hk
    exact h k w hk
theorem jbip {i : Int} (h : -128 ≤ i ∧ i < 128) : (Int8.ofInt i).toInt32 = Int32.ofInt i := by
  apply Int32.toInt_inj.mp
  rw [Int8.toInt_toInt32, Int8.toInt_ofInt_of_le (by simpa using h.1) (by simpa using h.2), Int32.toInt_ofInt_of_le (by simp; omega) (by simp; omega)]
theorem jsip {i : Int} (h : -32768 ≤ i ∧ i < 32768) : (Int16.ofInt i).toInt32 = Int32.ofInt i := by
  apply Int32.toInt_inj.mp
  rw [Int16.toInt_toInt32, Int16.toInt_ofInt_of_le (by simpa using h.1) (by simpa using h.2), Int32.toInt_ofInt_of_le (by simp; omega) (by simp; omega)]
theorem jTg_eq {pc : Nat} {off : Int} (h : 0 ≤ (pc : Int) + off) : (pc : Int) + off = (jTg pc off : Int) := by
  unfold jTg
  omega
theorem jsw_in {pc : Nat} {x : Int32} {dflt : Int} : ∀ (os : List Int) (lo : Int), lo ≤ x.toInt → x.toInt < lo + os.length → ∃ o, os[(x.toInt - lo).toNat]? = some o ∧ jsw pc x lo dflt os = ((pc : Int) + o).toNat
  | [], lo, h1, h2 => by simp at h2; omega
  | o :: os, lo, h1, h2 => by
    by_cases e : x.toInt = lo
    · exact ⟨o, by rw [e]; simp, by rw [jsw, if_pos e]⟩
    · obtain ⟨o', e1, e2⟩ := jsw_in (pc := pc) (x := x) (dflt := dflt) os (lo + 1) (by omega) (by simp at h2; omega)
      refine ⟨o', ?_, by rw [jsw, if_neg e]; exact e2⟩
      rw [show (x.toInt - lo).toNat = (x.toInt - (lo + 1)).toNat + 1 by omega, List.getElem?_cons_succ]
      exact e1
theorem jsw_out {pc : Nat} {x : Int32} {dflt : Int} : ∀ (os : List Int) (lo : Int), (x.toInt < lo ∨ lo + os.length ≤ x.toInt) → jsw pc x lo dflt os = ((pc : Int) + dflt).toNat
  | [], lo, _ => rfl
  | o :: os, lo, h => by
    simp at h
    rw [jsw, if_neg (by omega)]
    exact jsw_out (pc := pc) (x := x) (dflt := dflt) os (lo + 1) (by omega)
theorem jlk_eq {pc : Nat} {x : Int32} {dflt : Int} : ∀ (qs : List (Int × Int)), jlk pc x dflt qs = ((pc : Int) + Op.lookupswitch.offset qs dflt x.toInt).toNat ∧ (Op.lookupswitch.offset qs dflt x.toInt = dflt ∨ ∃ q ∈ qs, Op.lookupswitch.offset qs dflt x.toInt = q.2)
  | [] => ⟨rfl, Or.inl rfl⟩
  | q :: qs => by
    obtain ⟨a, o⟩ := q
    rw [Op.lookupswitch.offset_cons, jlk]
    by_cases e : x.toInt = a
    · rw [if_pos e]
      first | rw [if_pos e] | rw [if_pos e.symm]
      exact ⟨rfl, Or.inr ⟨_, List.mem_cons_self, rfl⟩⟩
    · rw [if_neg e]
      first | rw [if_neg e] | rw [if_neg (fun z => e z.symm)]
      obtain ⟨h1, h2⟩ := jlk_eq (pc := pc) (x := x) (dflt := dflt) qs
      refine ⟨h1, h2.imp id fun ⟨q, hq, h⟩ => ⟨q, List.mem_cons_of_mem _ hq, h⟩⟩
def jGd (g : jR → Nat) (b base : Nat) : Prop := (∀ (j : Nat) (r : jR), jRefs[j]? = some r → g r = base + j) ∧ g (17, (0, 0)) = b ∧ b < base
theorem jok_get {n : Nat} {r : jR} (h : jok n r) (hk : r.1 < 17) : ∃ j, j < n ∧ jRefs[j]? = some r := by
  rcases h with h | h | h
  · exact h
  · rw [h] at hk; simp at hk
  · rw [h] at hk; simp at hk
theorem jEn_obj {g : jR → Nat} {cA : Nat → ClassId} {σ : jS} {r : jR} (h : r.1 < 12) : jEn g cA σ r = .inr (r.1, jfs g σ r.1 r.2) := by
  unfold jEn; rw [if_pos h]
theorem jEn_ints {g : jR → Nat} {cA : Nat → ClassId} {σ : jS} {r : jR} (h : r.1 = 12 ∨ r.1 = 13 ∨ r.1 = 14) : jEn g cA σ r = .inl (cA r.1, (jLen r.1 r.2, .inl (fun j => σ.2.2 r.1 r.2 j))) := by
  unfold jEn; rw [if_neg (by omega), if_neg (by omega)]
theorem jEn_refs {g : jR → Nat} {cA : Nat → ClassId} {σ : jS} {r : jR} (h : r.1 = 15 ∨ r.1 = 16) : jEn g cA σ r = .inl (cA r.1, (jLen r.1 r.2, .inr (.inr (.inr (.inr (fun j => if σ.2.1.contains (r, j) then none else some (g (jrf r.1 r.2 j)))))))) := by
  unfold jEn; rw [if_neg (by omega), if_pos h]
theorem jfs_len {g : jR → Nat} {σ : jS} {k : Nat} {a : jA} : (jfs g σ k a).length = jN k := by simp [jfs, jN]
theorem jfs_at {g : jR → Nat} {σ : jS} {k s : Nat} {a : jA} (h : s < jN k) : (jfs g σ k a)[s]? = some (if (jIsRefT.getD k []).getD s false then (if σ.2.1.contains ((k, a), s) then .null else .ref (g (jrf k a s))) else .int (σ.2.2 k a s)) := by
  have h : s < jNT.getD k 0 := h
  simp only [jfs, List.getElem?_map, List.getElem?_range h, Option.map_some]
theorem jWs_D {g : jR → Nat} {base : Nat} {cA : Nat → ClassId} {σ : jS} (h : σ.1 ≤ 512) : va_D (fun q => base ≤ q) (jWs g base cA σ) := by
  have key : ∀ (i : Nat) (p : Nat × va_E), (jWs g base cA σ)[i]? = some p → p.1 = base + i := by
    intro i p hp
    simp only [jWs, List.getElem?_map, Option.map_eq_some_iff] at hp
    obtain ⟨j, h1, h2⟩ := hp
    have h3 := (List.getElem?_eq_some_iff.mp h1)
    obtain ⟨h4, h5⟩ := h3
    simp at h5
    subst h5
    rw [← h2]
  refine ⟨fun i j p q hi hj e => ?_, fun k q hk => ?_⟩
  · have h1 := key i p hi
    have h2 := key j q hj
    omega
  · rw [key k q hk]
    omega
theorem lrem_eq_mod (x y : Int64) : x - (x / y) * y = x % y := by
  apply Int64.toInt_inj.mp
  have h1 := Int64.le_toInt (x % y)
  have h2 := Int64.toInt_lt (x % y)
  rw [Int64.toInt_sub, Int64.toInt_mul, Int64.toInt_div, Int.bmod_mul_bmod, Int.sub_bmod_bmod, Int.mul_comm (x.toInt.tdiv y.toInt), ← Int.tmod_def, ← Int64.toInt_mod]
  exact Int.bmod_eq_of_le_mul_two (by omega) (by omega)
