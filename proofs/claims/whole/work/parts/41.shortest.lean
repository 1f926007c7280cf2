/-! the search for the shortest bill: trial house 12, evenings 1 to 8 -/
def nvEq (nv nv' : Nat → Nat → Int32) : Prop := (∀ f, f < 5 → ∀ s, s < 7 → nv f s = nv' f s) ∧ nv 5 0 = nv' 5 0
theorem nvEq_gN (M : jM) (q : Nat) (nv : Nat → Nat → Int32) : nvEq (gN (sN M q nv) q) nv := by
  refine ⟨fun f hf s hs => ?_, sN_gone M q nv⟩
  unfold gN
  rw [if_pos hf]
  exact sN_row hf hs
theorem nvEq_sN {M : jM} {q : Nat} {nv nv' : Nat → Nat → Int32} (e : sN M q nv = sN M q nv') : nvEq nv nv' := by
  have h1 := nvEq_gN M q nv
  have h2 := nvEq_gN M q nv'
  rw [e] at h1
  exact ⟨fun f hf s hs => (h1.1 f hf s hs).symm.trans (h2.1 f hf s hs), h1.2.symm.trans h2.2⟩
theorem nvEq_tr {a b c : Nat → Nat → Int32} (h : nvEq a b) (h' : nvEq b c) : nvEq a c := ⟨fun f hf s hs => (h.1 f hf s hs).trans (h'.1 f hf s hs), h.2.trans h'.2⟩
theorem nStage_E {h h' nv : Nat → Nat → Int32} {x y : Int32} (e : ∀ f, f < 10 → f ≠ 4 → rg 7 (h f) = rg 7 (h' f)) (e4 : rg 7 (h 4) x = rg 7 (h' 4) x) (e11 : h 10 11 = h' 10 11) : nStage h x y nv = nStage h' x y nv := by
  have e1 : ∀ nv p a, nLeave h nv p a = nLeave h' nv p a := fun nv p a => by unfold nLeave; rw [e 9 (by decide) (by decide)]
  have e2 : ∀ nv p a, nBore h nv p a = nBore h' nv p a := fun nv p a => by
    unfold nBore nBored nMore
    rw [e 0 (by decide) (by decide), e 1 (by decide) (by decide), e 3 (by decide) (by decide), e 5 (by decide) (by decide), e 6 (by decide) (by decide), e 7 (by decide) (by decide)]
  have e3 : ∀ nv p, nOut h nv p = nOut h' nv p := fun nv p => by
    unfold nOut
    rw [e 5 (by decide) (by decide), e 7 (by decide) (by decide), e 9 (by decide) (by decide)]
  have e5 : nStep1 h x = nStep1 h' x := by
    funext k nv
    unfold nStep1
    simp only [e1, e2, e3, e 9 (by decide) (by decide), e4]
  have e6 : nCough1 h x y = nCough1 h' x y := by
    funext k nv
    unfold nCough1
    simp only [e1, e 9 (by decide) (by decide)]
  unfold nStage hS
  rw [e5, e6, e11]
theorem nStage_nv {h nv nv' : Nat → Nat → Int32} {x y : Int32} (e : nvEq nv nv') : nvEq (nStage h x y nv) (nStage h x y nv') := by
  have e1 := fun nv => (c42 (d := 0) (n := 0) (i := 0) (q := 0) (M := sH (fun _ _ _ => 0) 0 h) (x := x) (y := y) (nv := nv) (v := none) (σ' := (0, ([], sN (sH (fun _ _ _ => 0) 0 h) 0 (nStage (gH (sH (fun _ _ _ => 0) 0 h) 0) x y nv))))).mpr ⟨rfl, rfl⟩
  have e2 := e1 nv
  rw [sN_ext (M := sH (fun _ _ _ => 0) 0 h) (q := 0) e.1 e.2] at e2
  have e3 := (jE_det e2 (e1 nv')).2
  have e4 := nvEq_sN (Prod.mk.inj (Prod.mk.inj e3).2).2
  have e5 : ∀ nv, nStage (gH (sH (fun _ _ _ => 0) 0 h) 0) x y nv = nStage h x y nv := fun nv => by
    have e := hEq_gH (fun _ _ _ => 0) 0 h
    generalize gH (sH (fun _ _ _ => 0) 0 h) 0 = h' at e
    exact nStage_E (fun f hf _ => rg7E e hf) (by rw [rg7E e (by decide)]) (e.2 11 (by decide) (by decide))
  rw [e5, e5] at e4
  exact e4
def hOne (H : Nat → Nat → Int32) (k : Nat) : Nat → Nat → Int32 := nset H 4 (fun _ => jn k)
def exNight (H nv : Nat → Nat → Int32) (d k : Nat) : Nat → Nat → Int32 := nStage (hOne H k) (jn d) 0 nv
abbrev exPass (H nv : Nat → Nat → Int32) : Prop := 2 * H 10 11 ≤ 3 * (H 10 11 - nv 5 0)
def bnd (H : Nat → Nat → Int32) (k : Nat) : Int32 := if rg 7 (H 0) (jn k) = 3 then 0 else clb (rg 7 (H 2) (jn k))
def exStep (H : Nat → Nat → Int32) (R : Nat → (Nat → Int32) → (Nat → Nat → Int32) → Int32 → Int32 → Int32 → (Nat → Int32) × (Nat × Int32) → (Nat → Int32) × (Nat × Int32)) (d : Nat) (c : Nat → Int32) (nv : Nat → Nat → Int32) (used spent miss : Int32) (k : Nat) (o : (Nat → Int32) × (Nat × Int32)) : (Nat → Int32) × (Nat × Int32) :=
  if ¬ used >>> (jn k &&& 31) &&& 1 = 0 then o
  else if o.2.2 ≤ spent + rg 7 (H 1) (jn k) then o
  else if exPass H (exNight H nv d k) then R (d + 1) (upd c d (jn k)) (exNight H nv d k) (used ||| 1 <<< (jn k &&& 31)) (spent + rg 7 (H 1) (jn k)) (miss &&& (bnd H k ^^^ -1)) (if miss &&& (bnd H k ^^^ -1) = 0 then (upd c d (jn k), (d + 1, spent + rg 7 (H 1) (jn k))) else o)
  else o
def exRun (H : Nat → Nat → Int32) (a : Nat) : Nat → Nat → (Nat → Int32) → (Nat → Nat → Int32) → Int32 → Int32 → Int32 → (Nat → Int32) × (Nat × Int32) → (Nat → Int32) × (Nat × Int32)
  | 0, _, _, _, _, _, _, o => o
  | f + 1, d, c, nv, used, spent, miss, o => jfor (exStep H (exRun H a f) d c nv used spent miss) a 0 o
theorem and_not_or (x C e : Int32) : (x &&& (C ^^^ -1)) &&& (e ^^^ -1) = x &&& ((C ||| e) ^^^ -1) := by
  apply Int32.toBitVec_inj.mp
  simp only [Int32.toBitVec_and, Int32.toBitVec_or, Int32.toBitVec_xor]
  ext i hi
  have e1 : (Int32.toBitVec (-1))[i] = true := by
    show (BitVec.allOnes 32)[i] = true
    exact BitVec.getElem_allOnes i hi
  simp only [BitVec.getElem_and, BitVec.getElem_or, BitVec.getElem_xor, e1]
  cases x.toBitVec[i] <;> cases C.toBitVec[i] <;> cases e.toBitVec[i] <;> rfl
/-- the clauses of all scenes but tragedies, scene by scene -/
def exAll (H : Nat → Nat → Int32) : Nat → Int32
  | 0 => 0
  | k + 1 => exAll H k ||| bnd H k
theorem exAll_or (H : Nat → Nat → Int32) : ∀ (a k : Nat), k < a → exAll H a ||| bnd H k = exAll H a
  | 0, _, h => absurd h (Nat.not_lt_zero _)
  | a + 1, k, h => by
    rw [exAll]
    by_cases e : k = a
    · rw [e, Int32.or_assoc, Int32.or_self]
    · rw [Int32.or_assoc, Int32.or_comm (bnd H a), ← Int32.or_assoc, exAll_or H a k (by omega)]
/-- where a clause of the set is no scene's, the search finds nothing -/
theorem exRun_no (H : Nat → Nat → Int32) (a : Nat) : ∀ (f d : Nat) (c : Nat → Int32) (nv : Nat → Nat → Int32) (used spent miss : Int32) (o : (Nat → Int32) × (Nat × Int32)), ¬ miss &&& (exAll H a ^^^ -1) = 0 → exRun H a f d c nv used spent miss o = o := by
  intro f
  induction f with
  | zero => intros; rfl
  | succ f ih =>
    intro d c nv used spent miss o hm
    have one : ∀ k, k < a → exStep H (exRun H a f) d c nv used spent miss k o = o := by
      intro k hk
      have e1 : (miss &&& (bnd H k ^^^ -1)) &&& (exAll H a ^^^ -1) = miss &&& (exAll H a ^^^ -1) := by
        rw [and_not_or, Int32.or_comm, exAll_or H a k hk]
      have e2 : ¬ miss &&& (bnd H k ^^^ -1) = 0 := fun z => by
        rw [z, Int32.zero_and] at e1
        exact hm e1.symm
      unfold exStep
      by_cases h1 : ¬ used >>> (jn k &&& 31) &&& 1 = 0
      · rw [if_pos h1]
      · rw [if_neg h1]
        by_cases h2 : o.2.2 ≤ spent + rg 7 (H 1) (jn k)
        · rw [if_pos h2]
        · rw [if_neg h2]
          by_cases h3 : exPass H (exNight H nv d k)
          · rw [if_pos h3, if_neg e2]
            exact ih _ _ _ _ _ _ _ (by rw [e1]; exact hm)
          · rw [if_neg h3]
    have all : ∀ g k, k + g ≤ a → jfor (exStep H (exRun H a f) d c nv used spent miss) g k o = o := by
      intro g
      induction g with
      | zero => intros; rfl
      | succ g ihg =>
        intro k hk
        rw [jfor, one k (by omega)]
        exact ihg (k + 1) (by omega)
    exact all a 0 (by omega)
def exFix (d k : Nat) (x : jA) (s : Nat) : Prop := ¬ (k = 12 ∧ x = (4, 12) ∧ d ≤ s) ∧ ¬ (k = 1 ∧ x = (0, 12) ∧ s = 12) ∧ ¬ (d + 1 < x.2 ∧ x.2 ≤ 8 ∧ (k = 4 ∨ (k = 12 ∧ 16 ≤ x.1 ∧ x.1 < 21))) ∧ ¬ (k = 12 ∧ x = (33, 0)) ∧ ¬ (k = 7 ∧ x = (0, 0) ∧ (s = 3 ∨ s = 4))
def exAg (d : Nat) (M M' : jM) : Prop := ∀ k x s, exFix d k x s → M' k x s = M k x s
theorem exAg_rfl (d : Nat) (M : jM) : exAg d M M := fun _ _ _ _ => rfl
theorem exAg_tr {d : Nat} {M M' M'' : jM} (h : exAg d M M') (h' : exAg d M' M'') : exAg d M M'' := fun k x s w => (h' k x s w).trans (h k x s w)
theorem exAg_le {d : Nat} {M M' : jM} (h : exAg (d + 1) M M') : exAg d M M' := fun k x s w => h k x s ⟨fun z => w.1 ⟨z.1, z.2.1, by omega⟩, w.2.1, fun z => w.2.2.1 ⟨by omega, z.2⟩, w.2.2.2⟩
def exI (H : Nat → Nat → Int32) (d : Nat) (c : Nat → Int32) (nv : Nat → Nat → Int32) (M : jM) : Prop :=
  (∀ f, f < 10 → f ≠ 4 → ∀ s, s < 7 → M 12 (f, 12) s = H f s) ∧ (M 1 (0, 12) 10 = H 10 10 ∧ M 1 (0, 12) 11 = H 10 11) ∧ (∀ i, i < d → M 12 (4, 12) i = c i) ∧ nvEq (gN M (d + 1)) nv
theorem exI_ag {H : Nat → Nat → Int32} {d : Nat} {c : Nat → Int32} {nv : Nat → Nat → Int32} {M M' : jM} (h : exAg d M M') (w : exI H d c nv M) : exI H d c nv M' := by
  refine ⟨fun f hf h4 s hs => ?_, ⟨?_, ?_⟩, fun i hi => ?_, ?_⟩
  · rw [h 12 (f, 12) s ⟨fun z => h4 (Prod.mk.inj z.2.1).1, (fun z => by cases z.1), (fun z => by have := z.2.1; simp at this), (fun z => by have := (Prod.mk.inj z.2).2; omega), (fun z => by cases z.1)⟩]
    exact w.1 f hf h4 s hs
  · rw [h 1 (0, 12) 10 ⟨(fun z => by cases z.1), (fun z => by cases z.2.2), (fun z => by have := z.2.1; simp at this), (fun z => by cases z.1), (fun z => by cases z.1)⟩]
    exact w.2.1.1
  · rw [h 1 (0, 12) 11 ⟨(fun z => by cases z.1), (fun z => by cases z.2.2), (fun z => by have := z.2.1; simp at this), (fun z => by cases z.1), (fun z => by cases z.1)⟩]
    exact w.2.1.2
  · rw [h 12 (4, 12) i ⟨fun z => by have := z.2.2; omega, (fun z => by cases z.1), (fun z => by have := z.2.1; simp at this), (fun z => by have := (Prod.mk.inj z.2).2; omega), (fun z => by cases z.1)⟩]
    exact w.2.2.1 i hi
  · have e : gN M' (d + 1) = gN M (d + 1) ∨ nvEq (gN M' (d + 1)) (gN M (d + 1)) := by
      right
      refine ⟨fun f hf s hs => ?_, ?_⟩
      · unfold gN
        rw [if_pos hf, if_pos hf]
        exact h 12 (16 + f, d + 1) s ⟨(fun z => by have := (Prod.mk.inj z.2.1).1; omega), (fun z => by cases z.1), (fun z => by have := z.1; simp at this), (fun z => by have := (Prod.mk.inj z.2).2; omega), (fun z => by cases z.1)⟩
      · exact h 4 (0, d + 1) 5 ⟨(fun z => by cases z.1), (fun z => by cases z.1), (fun z => by have := z.1; simp at this), (fun z => by cases z.1), (fun z => by cases z.1)⟩
    rcases e with e | e
    · rw [e]; exact w.2.2.2
    · exact nvEq_tr e w.2.2.2
def sR (M : jM) (o : (Nat → Int32) × (Nat × Int32)) : Prop := o.2.1 ≤ 7 ∧ M 7 (0, 0) 3 = jn o.2.1 ∧ M 7 (0, 0) 4 = o.2.2 ∧ ∀ i, i < o.2.1 → M 12 (33, 0) i = o.1 i
section JSH
variable {d n i q : Nat} {v : Option jV} {σ' : jS} {M : jM} {x y z : Int32} {h nv H : Nat → Nat → Int32}
/-- Shortest.evening -/
theorem c72 {p : Nat} (hp : p < 8) : jE d 72 0 [some (.inr (.inr (some (7, (0, 0))))), some (.inl (jn p))] [] (n, ([], M)) v σ' ↔ v = some (.inr (.inr (some (4, (0, 1 + p))))) ∧ σ' = (n, ([], M)) := by
  have e1 : (jn p < 0) = False := eq_false (jn_npos (by omega))
  have e2 : (Int32.ofNat (jLen 16 (0, 0)) ≤ jn p) = False := eq_false (fun z => absurd ((jn_le (k := 8) (by omega) (by omega)).mp z) (by omega))
  have e4 : (jn p).toNatClampNeg = p := jn_clamp (by omega)
  have e3 : (0 ≤ jn p ∧ p < jLen 16 (0, 0)) = True := eq_true ⟨jn_pos (by omega), hp⟩
  simp only [s72_0, s72_1, s72_4, s72_5, s72_6, s72_9, s72_10, s72_13, s72_14, s72_17, s72_18, s72_19, s72_22, s72_23, e1, e2, e4, e3, if_false, true_and]
/-- Shortest.bindable -/
theorem c73 : jE (d + 2) 73 0 [some (.inr (.inr (some (7, (0, 0))))), some (.inl x)] [] (n, ([], M)) v σ' ↔ v = some (.inl (if rg 7 (M 12 (0, 12)) x = 3 then 0 else clb (rg 7 (M 12 (2, 12)) x))) ∧ σ' = (n, ([], M)) := by
  simp only [s73_0, s73_1, s73_4, s73_7, s73_8, s73_11, s73_12, s73_15, s73_16, s73_19, s73_20, s73_23, s73_24, s73_27, c59, c24, jcall_eq, Option.toList_some, Option.toList_none, List.cons_append, List.nil_append, jl_0, jl_1, jl_2, jl_3, jl_4, jl_5, jl_6, jl_7, jl_8, jl_9, jl_16, jl_17, jl_18, jl_19, jl_20]
  by_cases h1 : rg 7 (M 12 (0, 12)) x = 3
  · rw [if_neg (fun z => z h1), if_pos h1]
  · rw [if_pos h1, if_neg h1]
/-- Shortest.note -/
theorem c74 : jE (d + 1) 74 0 [some (.inr (.inr (some (7, (0, 0))))), some (.inl x), some (.inl y)] [] (n, ([], M)) v σ' ↔ v = none ∧ σ' = (n, ([], mC (jUp (jUp M 7 (0, 0) 3 x) 7 (0, 0) 4 y) (33, 0) (rfill 7 (M 12 (33, 0)) (M 12 (4, 12))))) := by
  simp only [s74_0, s74_1, s74_2, s74_5, s74_6, s74_7, s74_10, s74_11, s74_14, s74_15, s74_18, s74_21, s74_24, c67 (a := (33, 0)) (b := (4, 12)) rfl, jcall_eq, Option.toList_some, Option.toList_none, List.cons_append, List.nil_append, jl_0, jl_1, jl_2, jl_3, jl_4, jl_5, jl_6, jl_7, jl_8, jl_9, jl_16, jl_17, jl_18, jl_19, jl_20, jl_33, jUp_k (show (12 : Nat) ≠ 7 by decide)]
def enM (M : jM) (d k : Nat) : jM := jUp (mC M (4, 12) (rs 7 (M 12 (4, 12)) (jn d) (jn k))) 1 (0, 12) 12 (jn (d + 1))
def enN (M : jM) (d k : Nat) : Nat → Nat → Int32 := nStage (gH (enM M d k) 12) (jn d) 0 (gN (enM M d k) (1 + d))
/-- Shortest.endures -/
theorem c71 {p k : Nat} (hp : p < 7) : jE (d + 3) 71 0 [some (.inr (.inr (some (7, (0, 0))))), some (.inl (jn p)), some (.inl (jn k)), none, none] [] (n, ([], M)) v σ' ↔ v = some (.inl (jb (nCarry (gH (enM M p k) 12) (enN M p k)))) ∧ σ' = (n, ([], sN (enM M p k) (1 + (p + 1)) (enN M p k))) := by
  simp only [s71_0, s71_1, s71_2, s71_5, s71_6, s71_7, s71_8, s71_9, s71_10, s71_13, s71_15, s71_16, s71_19, s71_21, s71_24, s71_25, s71_26, s71_27, s71_30, s71_33, s71_34, s71_35, s71_38, s71_39, s71_42, s71_43, s71_44, s71_45, s71_48, s71_50, s71_51, s71_54, s71_56, s71_57, s71_60, s71_61, s71_62, s71_65, s71_67, s71_68, s71_71, s71_74, jn_1, c72 (show p < 8 by omega), c72 (show p + 1 < 8 by omega), jcall_eq, Option.toList_some, Option.toList_none, List.cons_append, List.nil_append, reduceCtorEq, if_false, c60, c40 (show 1 + p ≠ 1 + (p + 1) by omega), jl_0, jl_1, jl_2, jl_3, jl_4, jl_5, jl_6, jl_7, jl_8, jl_9, jl_16, jl_17, jl_18, jl_19, jl_20]
  have e1 : jUp (mC M (4, 12) (rs 7 (M 12 (4, 12)) (jn p) (jn k))) 1 (0, 12) 12 (jn (p + 1)) = enM M p k := rfl
  rw [e1]
  simp only [s71_0, s71_1, s71_2, s71_5, s71_6, s71_7, s71_8, s71_9, s71_10, s71_13, s71_15, s71_16, s71_19, s71_21, s71_24, s71_25, s71_26, s71_27, s71_30, s71_33, s71_34, s71_35, s71_38, s71_39, s71_42, s71_43, s71_44, s71_45, s71_48, s71_50, s71_51, s71_54, s71_56, s71_57, s71_60, s71_61, s71_62, s71_65, s71_67, s71_68, s71_71, s71_74, c42, c43, jcall_eq, Option.toList_some, Option.toList_none, List.cons_append, List.nil_append, gH_sN, nCarry_N]
  exact ⟨fun w => w.2, fun w => ⟨jb_01 _, w⟩⟩
theorem enM_ag {p : Nat} (hp : p < 7) (k : Nat) : exAg p M (sN (enM M p k) (1 + (p + 1)) (enN M p k)) := by
  intro k' x s w
  obtain ⟨w1, w2, w3, w4, w5⟩ := w
  unfold sN
  rw [if_neg (fun z => w3 ⟨by omega, by omega, Or.inr ⟨z.1, z.2.2.1.1, z.2.2.1.2⟩⟩), if_neg (fun z => w3 ⟨by rw [z.2.1]; show p + 1 < 1 + (p + 1); omega, by rw [z.2.1]; show 1 + (p + 1) ≤ 8; omega, Or.inl z.1⟩)]
  unfold enM jUp
  rw [if_neg w2]
  unfold mC
  by_cases h1 : k' = 12 ∧ x = (4, 12)
  · rw [if_pos h1, rs_in (by omega) hp]
    unfold upd
    rw [if_neg (fun z => w1 ⟨h1.1, h1.2, by omega⟩), h1.1, h1.2]
  · rw [if_neg h1]
theorem enX_7 (p k : Nat) : sN (enM M p k) (1 + (p + 1)) (enN M p k) 7 = M 7 := by
  rw [sN_k _ _ _ (by decide) (by decide)]
  unfold enM
  rw [jUp_k (by decide), mC_k (by decide)]
theorem enX_33 (p k : Nat) : sN (enM M p k) (1 + (p + 1)) (enN M p k) 12 (33, 0) = M 12 (33, 0) := by
  rw [sN_R (by decide)]
  unfold enM
  rw [jUp_k (by decide), mC_ne (by decide)]
theorem enX_4 {p : Nat} (hp : p < 7) (k : Nat) : sN (enM M p k) (1 + (p + 1)) (enN M p k) 12 (4, 12) = upd (M 12 (4, 12)) p (jn k) := by
  rw [sN_H _ _ _ (by decide)]
  unfold enM
  rw [jUp_k (by decide), mC_at, rs_in (by omega) hp]
theorem en_nv {p : Nat} {c : Nat → Int32} (hp : p < 7) (w : exI H p c nv M) (k : Nat) : nvEq (enN M p k) (exNight H nv p k) := by
  have e1 : enN M p k = nStage (hOne H k) (jn p) 0 (gN M (1 + p)) := by
    unfold enN
    have eg : gN (enM M p k) (1 + p) = gN M (1 + p) := by
      funext f
      unfold gN enM
      by_cases h1 : f < 5
      · rw [if_pos h1, if_pos h1, jUp_k (by decide), mC_ne (fun z => by have := (Prod.mk.inj z).1; omega)]
      · rw [if_neg h1, if_neg h1, jUp_k (by decide), mC_k (by decide)]
    rw [eg]
    have er : ∀ f, f < 10 → f ≠ 4 → gH (enM M p k) 12 f = M 12 (f, 12) := fun f hf h4 => by
      unfold gH enM
      rw [if_pos hf, jUp_k (by decide), mC_ne (fun z => h4 (Prod.mk.inj z).1)]
    refine nStage_E (fun f hf h4 => ?_) ?_ ?_
    · rw [er f hf h4]
      unfold hOne
      rw [nset_ne h4]
      exact funext fun x => rg7 (fun s hs => w.1 f hf h4 s hs) x
    · unfold hOne
      rw [nset_at, rg_in (by omega) hp, rg_in (by omega) hp]
      show enM M p k 12 (4, 12) p = jn k
      unfold enM
      rw [jUp_k (by decide), mC_at, rs_in (by omega) hp]
      exact if_pos rfl
    · show enM M p k 1 (0, 12) 11 = hOne H k 10 11
      unfold enM hOne
      rw [jUp_s (by decide), mC_k (by decide), nset_ne (by decide)]
      exact w.2.1.2
  rw [e1]
  have h4 := w.2.2.2
  rw [Nat.add_comm] at h4
  exact nStage_nv h4
theorem en_pass {p : Nat} {c : Nat → Int32} (hp : p < 7) (w : exI H p c nv M) (k : Nat) : nCarry (gH (enM M p k) 12) (enN M p k) ↔ exPass H (exNight H nv p k) := by
  unfold nCarry exPass
  rw [(en_nv hp w k).2]
  show (0 < enM M p k 1 (0, 12) 12 ∧ 2 * enM M p k 1 (0, 12) 11 ≤ 3 * (enM M p k 1 (0, 12) 11 - _)) ↔ _
  have e1 : enM M p k 1 (0, 12) 12 = jn (p + 1) := by
    unfold enM
    exact jUp_at _ _ _ _ _
  have e2 : enM M p k 1 (0, 12) 11 = H 10 11 := by
    unfold enM
    rw [jUp_s (by decide), mC_k (by decide)]
    exact w.2.1.2
  rw [e1, e2]
  exact ⟨fun z => z.2, fun z => ⟨(jn_lt (k := 0) (by omega) (by omega)).mpr (by omega), z⟩⟩
theorem exI_next {p : Nat} {c : Nat → Int32} (hp : p < 7) (w : exI H p c nv M) (k : Nat) : exI H (p + 1) (upd c p (jn k)) (exNight H nv p k) (sN (enM M p k) (1 + (p + 1)) (enN M p k)) := by
  have w2 := exI_ag (enM_ag hp k) w
  refine ⟨w2.1, w2.2.1, fun i hi => ?_, ?_⟩
  · rw [enX_4 hp]
    unfold upd
    by_cases h1 : i = p
    · rw [if_pos h1, if_pos h1]
    · rw [if_neg h1, if_neg h1]
      exact w.2.2.1 i (by omega)
  · rw [show p + 1 + 1 = 1 + (p + 1) by omega]
    exact nvEq_tr (nvEq_gN _ _ _) (en_nv hp w k)
def ntM (X : jM) (x y : Int32) : jM := mC (jUp (jUp X 7 (0, 0) 3 x) 7 (0, 0) 4 y) (33, 0) (rfill 7 (X 12 (33, 0)) (X 12 (4, 12)))
theorem ntM_ag (p : Nat) (X : jM) (x y : Int32) : exAg p X (ntM X x y) := by
  intro k' a s w
  obtain ⟨w1, w2, w3, w4, w5⟩ := w
  unfold ntM mC jUp
  rw [if_neg w4, if_neg (fun z => w5 ⟨z.1, z.2.1, Or.inr z.2.2⟩), if_neg (fun z => w5 ⟨z.1, z.2.1, Or.inl z.2.2⟩)]
theorem ntM_sR {p : Nat} (hp : p ≤ 7) (X : jM) (y : Int32) (c : Nat → Int32) (hc : ∀ i, i < p → X 12 (4, 12) i = c i) : sR (ntM X (jn p) y) (c, (p, y)) := by
  refine ⟨hp, ?_, ?_, fun i hi => ?_⟩
  · unfold ntM
    rw [mC_k (by decide), jUp_s (by decide), jUp_at]
  · unfold ntM
    rw [mC_k (by decide), jUp_at]
  · have hi' : i < p := hi
    unfold ntM
    rw [mC_at]
    unfold rfill
    rw [if_pos (by omega)]
    exact hc i hi'
set_option maxHeartbeats 2000000 in
/-- Shortest.extend -/
theorem c70 {a : Nat} (ha : a ≤ 7) (hs : H 10 10 = jn a) : ∀ (f p : Nat), p + f = 7 → ∀ (M : jM) (c : Nat → Int32) (nv : Nat → Nat → Int32) (used spent miss : Int32) (o : (Nat → Int32) × (Nat × Int32)), exI H p c nv M → sR M o → ∃ M', jE (d + f + 4) 70 0 [some (.inr (.inr (some (7, (0, 0))))), some (.inl (jn p)), some (.inl used), some (.inl spent), some (.inl miss), none, none, none] [] (n, ([], M)) none (n, ([], M')) ∧ exAg p M M' ∧ sR M' (exRun H a f p c nv used spent miss o) := by
  intro f
  induction f with
  | zero =>
    intro p hp M c nv used spent miss o w r
    refine ⟨M, ?_, exAg_rfl p M, r⟩
    rw [s70_0, s70_1, s70_3, if_neg (show ¬ jn p < 7 from fun z => absurd ((jn_lt (k := p) (l := 7) (by omega) (by omega)).mp z) (by omega)), s70_6]
    exact ⟨rfl, rfl⟩
  | succ f ih =>
    intro p hp M c nv used spent miss o w r
    have loop : ∀ (g k : Nat) (M : jM) (o : (Nat → Int32) × (Nat × Int32)) (a6 a7 : Option jV), k + g = a → exI H p c nv M → sR M o → ∃ M', jE (d + (f + 1) + 4) 70 10 [some (.inr (.inr (some (7, (0, 0))))), some (.inl (jn p)), some (.inl used), some (.inl spent), some (.inl miss), some (.inl (jn k)), a6, a7] [] (n, ([], M)) none (n, ([], M')) ∧ exAg p M M' ∧ sR M' (jfor (exStep H (exRun H a f) p c nv used spent miss) g k o) := by
      intro g
      induction g with
      | zero =>
        intro k M o a6 a7 hk w r
        refine ⟨M, ?_, exAg_rfl p M, r⟩
        rw [s70_10, s70_12, s70_13, s70_16, s70_19, w.2.1.1, hs, if_pos ((jn_le (by omega) (by omega)).mpr (by omega)), s70_122]
        exact ⟨rfl, rfl⟩
      | succ g ihg =>
        intro k M o a6 a7 hk w r
        have e1 : rg 7 (M 12 (1, 12)) (jn k) = rg 7 (H 1) (jn k) := rg7 (fun s hs => w.1 1 (by decide) (by decide) s hs) _
        have e4 : M 7 (0, 0) 4 = o.2.2 := r.2.2.1
        have head : ∀ (v : Option jV) (σ' : jS), jE (d + (f + 1) + 4) 70 10 [some (.inr (.inr (some (7, (0, 0))))), some (.inl (jn p)), some (.inl used), some (.inl spent), some (.inl miss), some (.inl (jn k)), a6, a7] [] (n, ([], M)) v σ' ↔ (if ¬ used >>> (jn k &&& 31) &&& 1 = 0 then jE (d + (f + 1) + 4) 70 10 [some (.inr (.inr (some (7, (0, 0))))), some (.inl (jn p)), some (.inl used), some (.inl spent), some (.inl miss), some (.inl (jn (k + 1))), some (.inl (spent + rg 7 (H 1) (jn k))), a7] [] (n, ([], M)) v σ' else if o.2.2 ≤ spent + rg 7 (H 1) (jn k) then jE (d + (f + 1) + 4) 70 10 [some (.inr (.inr (some (7, (0, 0))))), some (.inl (jn p)), some (.inl used), some (.inl spent), some (.inl miss), some (.inl (jn (k + 1))), some (.inl (spent + rg 7 (H 1) (jn k))), a7] [] (n, ([], M)) v σ' else jE (d + (f + 1) + 4) 70 59 [some (.inr (.inr (some (7, (0, 0))))), some (.inl (jn p)), some (.inl used), some (.inl spent), some (.inl miss), some (.inl (jn k)), some (.inl (spent + rg 7 (H 1) (jn k))), a7] [] (n, ([], M)) v σ') := by
          intro v σ'
          rw [s70_10, s70_12, s70_13, s70_16, s70_19, w.2.1.1, hs, if_neg (fun z => absurd ((jn_le (by omega) (by omega)).mp z) (by omega))]
          simp only [s70_22, s70_23, s70_24, s70_27, s70_30, s70_32, s70_35, s70_36, s70_38, s70_39, s70_41, s70_44, s70_47, s70_49, s70_50, s70_53, s70_56, s70_116, c59, c121, jcall_eq, Option.toList_some, Option.toList_none, List.cons_append, List.nil_append, jl_0, jl_1, jl_2, jl_3, jl_4, jl_5, jl_6, jl_7, jl_8, jl_9, jl_16, jl_17, jl_18, jl_19, jl_20, e1, e4, jb_0, Classical.not_not]
          rw [s70_119, jn_1]
          by_cases h1 : used >>> (jn k &&& 31) &&& 1 = 0
          · simp only [h1, not_true_eq_false, if_true, if_false]
            by_cases h2 : o.2.2 ≤ spent + rg 7 (H 1) (jn k)
            · rw [if_neg (Int32.not_lt.mpr h2), if_pos h2]
            · rw [if_pos (Int32.not_le.mp h2), if_neg h2]
          · simp only [h1, not_false_eq_true, if_true, if_false]
        by_cases h1 : used >>> (jn k &&& 31) &&& 1 = 0
        · by_cases h2 : o.2.2 ≤ spent + rg 7 (H 1) (jn k)
          · obtain ⟨M', e, ag, r'⟩ := ihg (k + 1) M o (some (.inl (spent + rg 7 (H 1) (jn k)))) a7 (by omega) w r
            refine ⟨M', (head _ _).mpr ?_, ag, ?_⟩
            · rw [if_neg (fun z => z h1), if_pos h2]
              exact e
            · rw [jfor, exStep, if_neg (fun z => z h1), if_pos h2]
              exact r'
          · have ag1 := enM_ag (M := M) (show p < 7 by omega) k
            have w1 := exI_ag ag1 w
            have r1 : sR (sN (enM M p k) (1 + (p + 1)) (enN M p k)) o := ⟨r.1, by rw [enX_7]; exact r.2.1, by rw [enX_7]; exact r.2.2.1, fun i hi => by rw [enX_33]; exact r.2.2.2 i hi⟩
            have hc := fun (v : Option jV) (σ' : jS) => c71 (d := d + (f + 1)) (n := n) (M := M) (v := v) (σ' := σ') (k := k) (show p < 7 by omega)
            by_cases h3 : exPass H (exNight H nv p k)
            · have h3' := (en_pass (show p < 7 by omega) w k).mpr h3
              have eb : (if rg 7 (sN (enM M p k) (1 + (p + 1)) (enN M p k) 12 (0, 12)) (jn k) = 3 then 0 else clb (rg 7 (sN (enM M p k) (1 + (p + 1)) (enN M p k) 12 (2, 12)) (jn k))) = bnd H k := by
                unfold bnd
                rw [rg7 (fun s hs => w1.1 0 (by decide) (by decide) s hs), rg7 (fun s hs => w1.1 2 (by decide) (by decide) s hs)]
              have hb := fun (v : Option jV) (σ' : jS) => c73 (d := d + (f + 1) + 1) (n := n) (M := sN (enM M p k) (1 + (p + 1)) (enN M p k)) (v := v) (σ' := σ') (x := jn k)
              rw [eb] at hb
              have wn := exI_next (show p < 7 by omega) w k
              obtain ⟨M3, e3, ag3, w3, r3⟩ : ∃ M3, (∀ (v : Option jV) (σ' : jS), jE (d + (f + 1) + 4) 70 85 [some (.inr (.inr (some (7, (0, 0))))), some (.inl (jn p)), some (.inl used), some (.inl spent), some (.inl miss), some (.inl (jn k)), some (.inl (spent + rg 7 (H 1) (jn k))), some (.inl (miss &&& (bnd H k ^^^ -1)))] [] (n, ([], sN (enM M p k) (1 + (p + 1)) (enN M p k))) v σ' ↔ jE (d + (f + 1) + 4) 70 99 [some (.inr (.inr (some (7, (0, 0))))), some (.inl (jn p)), some (.inl used), some (.inl spent), some (.inl miss), some (.inl (jn k)), some (.inl (spent + rg 7 (H 1) (jn k))), some (.inl (miss &&& (bnd H k ^^^ -1)))] [] (n, ([], M3)) v σ') ∧ exAg p (sN (enM M p k) (1 + (p + 1)) (enN M p k)) M3 ∧ exI H (p + 1) (upd c p (jn k)) (exNight H nv p k) M3 ∧ sR M3 (if miss &&& (bnd H k ^^^ -1) = 0 then (upd c p (jn k), (p + 1, spent + rg 7 (H 1) (jn k))) else o) := by
                by_cases h5 : miss &&& (bnd H k ^^^ -1) = 0
                · refine ⟨ntM (sN (enM M p k) (1 + (p + 1)) (enN M p k)) (jn (p + 1)) (spent + rg 7 (H 1) (jn k)), fun v σ' => ?_, ntM_ag p _ _ _, exI_ag (ntM_ag (p + 1) _ _ _) wn, ?_⟩
                  · have hn := fun (v : Option jV) (σ' : jS) => c74 (d := d + (f + 1) + 2) (n := n) (M := sN (enM M p k) (1 + (p + 1)) (enN M p k)) (v := v) (σ' := σ') (x := jn (p + 1)) (y := spent + rg 7 (H 1) (jn k))
                    rw [s70_85, s70_87, if_neg (fun z => z h5)]
                    simp only [s70_90, s70_91, s70_92, s70_93, s70_94, s70_96, jn_1]
                    simp only [hn, jcall_eq, Option.toList_some, Option.toList_none, List.cons_append, List.nil_append]
                    rfl
                  · rw [if_pos h5]
                    exact ntM_sR (by omega) _ _ _ wn.2.2.1
                · refine ⟨sN (enM M p k) (1 + (p + 1)) (enN M p k), fun v σ' => ?_, exAg_rfl _ _, wn, ?_⟩
                  · rw [s70_85, s70_87, if_pos h5]
                  · rw [if_neg h5]
                    exact r1
              obtain ⟨M4, e4, ag4, r4⟩ := ih (p + 1) (by omega) M3 (upd c p (jn k)) (exNight H nv p k) (used ||| 1 <<< (jn k &&& 31)) (spent + rg 7 (H 1) (jn k)) (miss &&& (bnd H k ^^^ -1)) _ w3 r3
              have ag5 : exAg p M M4 := exAg_tr ag1 (exAg_tr ag3 (exAg_le ag4))
              obtain ⟨M', e, ag, r'⟩ := ihg (k + 1) M4 _ (some (.inl (spent + rg 7 (H 1) (jn k)))) (some (.inl (miss &&& (bnd H k ^^^ -1)))) (by omega) (exI_ag ag5 w) r4
              refine ⟨M', (head _ _).mpr ?_, exAg_tr ag5 ag, ?_⟩
              · rw [if_neg (fun z => z h1), if_neg h2]
                simp only [s70_59, s70_60, s70_61, s70_63]
                refine ⟨_, _, (hc _ _).mpr ⟨rfl, rfl⟩, ?_⟩
                simp only [Option.toList_some, List.cons_append, List.nil_append, s70_66, jb_0, Classical.not_not]
                rw [if_pos h3']
                simp only [s70_72, s70_74, s70_75, s70_77]
                refine ⟨_, _, (hb _ _).mpr ⟨rfl, rfl⟩, ?_⟩
                simp only [Option.toList_some, List.cons_append, List.nil_append, s70_80, s70_81, s70_82, s70_83]
                refine (e3 _ _).mpr ?_
                simp only [s70_99, s70_100, s70_101, s70_102, s70_103, s70_104, s70_105, s70_107, s70_108, s70_109, s70_111, s70_113, jn_1]
                refine ⟨_, _, e4, ?_⟩
                simp only [Option.toList_none, List.nil_append, s70_116]
                rw [s70_119, jn_1]
                exact e
              · rw [jfor, exStep, if_neg (fun z => z h1), if_neg h2, if_pos h3]
                exact r'
            · have h3' : ¬ nCarry (gH (enM M p k) 12) (enN M p k) := fun z => h3 ((en_pass (show p < 7 by omega) w k).mp z)
              obtain ⟨M', e, ag, r'⟩ := ihg (k + 1) _ o (some (.inl (spent + rg 7 (H 1) (jn k)))) a7 (by omega) w1 r1
              refine ⟨M', (head _ _).mpr ?_, exAg_tr ag1 ag, ?_⟩
              · rw [if_neg (fun z => z h1), if_neg h2]
                simp only [s70_59, s70_60, s70_61, s70_63]
                refine ⟨_, _, (hc _ _).mpr ⟨rfl, rfl⟩, ?_⟩
                simp only [Option.toList_some, List.cons_append, List.nil_append, s70_66, jb_0, Classical.not_not]
                rw [if_neg h3', s70_69, s70_116, s70_119, jn_1]
                exact e
              · rw [jfor, exStep, if_neg (fun z => z h1), if_neg h2, if_neg h3]
                exact r'
        · obtain ⟨M', e, ag, r'⟩ := ihg (k + 1) M o (some (.inl (spent + rg 7 (H 1) (jn k)))) a7 (by omega) w r
          refine ⟨M', (head _ _).mpr ?_, ag, ?_⟩
          · rw [if_pos h1]
            exact e
          · rw [jfor, exStep, if_pos h1]
            exact r'
    obtain ⟨M', e, ag, r'⟩ := loop a 0 M o none none (by omega) w r
    refine ⟨M', ?_, ag, r'⟩
    rw [s70_0, s70_1, s70_3, if_pos (show jn p < 7 from (jn_lt (k := p) (l := 7) (by omega) (by omega)).mpr (by omega)), s70_7, s70_8]
    exact e
/-- Shortest.allBindable -/
theorem c197 {a p : Nat} {c : Nat → Int32} (ha : a ≤ 7) (hs : H 10 10 = jn a) (w : exI H p c nv M) : jE (d + 3) 197 0 [some (.inr (.inr (some (7, (0, 0))))), none, none] [] (n, ([], M)) v σ' ↔ v = some (.inl (exAll H a)) ∧ σ' = (n, ([], M)) := by
  have loop : ∀ (g k : Nat), k + g = a → (jE (d + 3) 197 4 [some (.inr (.inr (some (7, (0, 0))))), some (.inl (exAll H k)), some (.inl (jn k))] [] (n, ([], M)) v σ' ↔ v = some (.inl (exAll H a)) ∧ σ' = (n, ([], M))) := by
    intro g
    induction g with
    | zero =>
      intro k hk
      obtain rfl : k = a := by omega
      rw [s197_4, s197_5, s197_6, s197_9, s197_12, w.2.1.1, hs, if_pos ((jn_le (by omega) (by omega)).mpr (by omega)), s197_29, s197_30]
    | succ g ihg =>
      intro k hk
      have eb : (if rg 7 (M 12 (0, 12)) (jn k) = 3 then 0 else clb (rg 7 (M 12 (2, 12)) (jn k))) = bnd H k := by
        unfold bnd
        rw [rg7 (fun s hs => w.1 0 (by decide) (by decide) s hs), rg7 (fun s hs => w.1 2 (by decide) (by decide) s hs)]
      have hb := fun (v : Option jV) (σ' : jS) => c73 (d := d) (n := n) (M := M) (v := v) (σ' := σ') (x := jn k)
      rw [eb] at hb
      rw [s197_4, s197_5, s197_6, s197_9, s197_12, w.2.1.1, hs, if_neg (fun z => absurd ((jn_le (by omega) (by omega)).mp z) (by omega))]
      simp only [s197_15, s197_16, s197_17, s197_18, hb, jcall_eq, Option.toList_some, Option.toList_none, List.cons_append, List.nil_append, s197_21, s197_22, s197_23]
      rw [s197_26, jn_1]
      exact ihg (k + 1) (by omega)
  rw [s197_0, s197_1, s197_2, s197_3]
  exact loop a 0 (by omega)
def exZ : (Nat → Int32) × (Nat × Int32) := (fun _ => 0, (0, 141))
def exBest (H : Nat → Nat → Int32) (a : Nat) (set : Int32) : (Nat → Int32) × (Nat × Int32) := exRun H a 7 0 (fun _ => 0) (fun _ _ => 0) 0 0 set exZ
/-- what the search leaves as it was -/
def shFix (k : Nat) (x : jA) : Prop := ¬ (k = 12 ∧ x.2 = 12 ∧ x.1 < 10) ∧ ¬ (k = 1 ∧ x = (0, 12)) ∧ ¬ (1 < x.2 ∧ x.2 ≤ 8 ∧ (k = 4 ∨ (k = 12 ∧ 16 ≤ x.1 ∧ x.1 < 21))) ∧ ¬ (k = 12 ∧ x = (33, 0)) ∧ ¬ (k = 7 ∧ x = (0, 0))
/-- Shortest.find -/
theorem c69_old (hx : x = M 7 (0, 0) 5) (hy : y = M 7 (0, 0) 6) : jE (d + 1) 69 0 [some (.inr (.inr (some (7, (0, 0))))), some (.inr (.inr (some (1, (0, 1))))), some (.inl x), some (.inl y)] [] (n, ([], M)) v σ' ↔ v = none ∧ σ' = (n, ([], M)) := by
  rw [s69_0, s69_1, s69_2, s69_5, if_neg (fun w => w hx), s69_8, s69_9, s69_10, s69_13, if_neg (fun w => w hy), s69_16]
theorem c69_new {a : Nat} (ha : a ≤ 7) (hs : gH M 1 10 10 = jn a) (hx : ¬ (x = M 7 (0, 0) 5 ∧ y = M 7 (0, 0) 6)) (h0 : nvEq (gN M 1) (fun _ _ => 0)) : ∃ M', jE (d + 12) 69 0 [some (.inr (.inr (some (7, (0, 0))))), some (.inr (.inr (some (1, (0, 1))))), some (.inl x), some (.inl y)] [] (n, ([], M)) none (n, ([], M')) ∧ (∀ k a, shFix k a → M' k a = M k a) ∧ (M' 7 (0, 0) 5 = x ∧ M' 7 (0, 0) 6 = y) ∧ sR M' (exBest (gH M 1) a x) := by
  let N : jM := jUp (jUp (sH (jUp (jUp M 7 (0, 0) 5 x) 7 (0, 0) 6 y) 12 (gH M 1)) 7 (0, 0) 3 0) 7 (0, 0) 4 141
  have hN : N = jUp (jUp (sH (jUp (jUp M 7 (0, 0) 5 x) 7 (0, 0) 6 y) 12 (gH M 1)) 7 (0, 0) 3 0) 7 (0, 0) 4 141 := rfl
  have eg : gH (jUp (jUp M 7 (0, 0) 5 x) 7 (0, 0) 6 y) 1 = gH M 1 := by
    unfold gH
    rw [jUp_k (by decide), jUp_k (by decide), jUp_k (by decide), jUp_k (by decide)]
  have w : exI (gH M 1) 0 (fun _ => 0) (fun _ _ => 0) N := by
    refine ⟨fun f hf _ s hs => ?_, ⟨?_, ?_⟩, fun i hi => absurd hi (by omega), ?_⟩
    · rw [hN, jUp_k (by decide), jUp_k (by decide)]
      exact sH_row hf hs
    · rw [hN, jUp_k (by decide), jUp_k (by decide)]
      exact sH_num (by decide) (by decide)
    · rw [hN, jUp_k (by decide), jUp_k (by decide)]
      exact sH_num (by decide) (by decide)
    · have e : gN N (0 + 1) = gN M 1 := by
        funext f
        unfold gN
        by_cases h1 : f < 5
        · rw [if_pos h1, if_pos h1, hN, jUp_k (by decide), jUp_k (by decide), sH_other (by decide), jUp_k (by decide), jUp_k (by decide)]
        · rw [if_neg h1, if_neg h1, hN, jUp_k (by decide), jUp_k (by decide), sH_k (by decide) (by decide), jUp_k (by decide), jUp_k (by decide)]
      rw [e]
      exact h0
  have r : sR N exZ := by
    refine ⟨by decide, ?_, ?_, fun i hi => absurd hi (Nat.not_lt_zero i)⟩
    · rw [hN, jUp_s (by decide), jUp_at]
      rfl
    · rw [hN, jUp_at]
      rfl
  have hall := fun (v : Option jV) (σ' : jS) => c197 (d := d + 8) (n := n) (H := gH M 1) (M := N) (v := v) (σ' := σ') ha hs w
  obtain ⟨M', e, ag, r'⟩ : ∃ M', (∀ (v : Option jV) (σ' : jS), v = none → σ' = (n, ([], M')) → jE (d + 12) 69 47 [some (.inr (.inr (some (7, (0, 0))))), some (.inr (.inr (some (1, (0, 1))))), some (.inl x), some (.inl y)] [] (n, ([], N)) v σ') ∧ exAg 0 N M' ∧ sR M' (exBest (gH M 1) a x) := by
    by_cases hq : x &&& (exAll (gH M 1) a ^^^ -1) = 0
    · obtain ⟨M', e, ag, r'⟩ := c70 (d := d) (n := n) (H := gH M 1) ha hs 7 0 (by omega) N (fun _ => 0) (fun _ _ => 0) 0 0 x exZ w r
      refine ⟨M', ?_, ag, r'⟩
      rintro _ _ rfl rfl
      rw [s69_47, s69_48, s69_49]
      refine ⟨_, _, (hall _ _).mpr ⟨rfl, rfl⟩, ?_⟩
      simp only [Option.toList_some, List.cons_append, List.nil_append, s69_52, s69_53, s69_54, s69_55]
      rw [if_neg (fun z => z hq)]
      simp only [s69_58, s69_59, s69_60, s69_61, s69_62, s69_63]
      refine ⟨_, _, e, ?_⟩
      simp only [Option.toList_none, List.nil_append, s69_66]
      exact ⟨trivial, trivial⟩
    · refine ⟨N, ?_, exAg_rfl 0 N, ?_⟩
      · rintro _ _ rfl rfl
        rw [s69_47, s69_48, s69_49]
        refine ⟨_, _, (hall _ _).mpr ⟨rfl, rfl⟩, ?_⟩
        simp only [Option.toList_some, List.cons_append, List.nil_append, s69_52, s69_53, s69_54, s69_55]
        rw [if_pos hq, s69_66]
        exact ⟨rfl, rfl⟩
      · rw [show exBest (gH M 1) a x = exZ from exRun_no (gH M 1) a 7 0 _ _ 0 0 x exZ hq]
        exact r
  refine ⟨M', ?_, fun k b wf => ?_, ⟨?_, ?_⟩, r'⟩
  · have e1 : (x = M 7 (0, 0) 5 → ¬ y = M 7 (0, 0) 6) := fun z1 z2 => hx ⟨z1, z2⟩
    have head : jE (d + 12) 69 0 [some (.inr (.inr (some (7, (0, 0))))), some (.inr (.inr (some (1, (0, 1))))), some (.inl x), some (.inl y)] [] (n, ([], M)) none (n, ([], M')) ↔ jE (d + 12) 69 17 [some (.inr (.inr (some (7, (0, 0))))), some (.inr (.inr (some (1, (0, 1))))), some (.inl x), some (.inl y)] [] (n, ([], M)) none (n, ([], M')) := by
      rw [s69_0, s69_1, s69_2, s69_5]
      by_cases h1 : x = M 7 (0, 0) 5
      · rw [if_neg (fun w => w h1), s69_8, s69_9, s69_10, s69_13, if_pos (e1 h1)]
      · rw [if_pos h1]
    rw [head]
    simp only [s69_17, s69_18, s69_19, s69_22, s69_23, s69_24, s69_27, s69_28, s69_31, s69_32, s69_35, s69_36, s69_37, s69_40, s69_41, s69_44, c9 (show (1 : Nat) ≠ 12 by decide), jcall_eq, Option.toList_some, Option.toList_none, List.cons_append, List.nil_append, eg]
    exact e _ _ rfl rfl
  · funext s
    obtain ⟨w1, w2, w3, w4, w5⟩ := wf
    rw [ag k b s ⟨fun z => w1 ⟨z.1, by rw [z.2.1], by rw [z.2.1]; show (4 : Nat) < 10; decide⟩, fun z => w2 ⟨z.1, z.2.1⟩, fun z => w3 ⟨by have := z.1; omega, z.2⟩, w4, fun z => w5 ⟨z.1, z.2.1⟩⟩, hN]
    unfold jUp
    rw [if_neg (fun z => w5 ⟨z.1, z.2.1⟩), if_neg (fun z => w5 ⟨z.1, z.2.1⟩)]
    unfold sH
    rw [if_neg (fun z => w1 ⟨z.1, z.2.1, z.2.2.1⟩), if_neg (fun z => w2 ⟨z.1, z.2.1⟩)]
    show (if k = 7 ∧ b = (0, 0) ∧ s = 6 then y else if k = 7 ∧ b = (0, 0) ∧ s = 5 then x else M k b s) = M k b s
    rw [if_neg (fun z => w5 ⟨z.1, z.2.1⟩), if_neg (fun z => w5 ⟨z.1, z.2.1⟩)]
  · rw [ag 7 (0, 0) 5 ⟨(fun z => by cases z.1), (fun z => by cases z.1), (fun z => by have := z.1; simp at this), (fun z => by cases z.1), (fun z => by rcases z.2.2 with q | q <;> cases q)⟩, hN, jUp_s (by decide), jUp_s (by decide), sH_k (by decide) (by decide), jUp_s (by decide), jUp_at]
  · rw [ag 7 (0, 0) 6 ⟨(fun z => by cases z.1), (fun z => by cases z.1), (fun z => by have := z.1; simp at this), (fun z => by cases z.1), (fun z => by rcases z.2.2 with q | q <;> cases q)⟩, hN, jUp_s (by decide), jUp_s (by decide), sH_k (by decide) (by decide), jUp_at]
end JSH
