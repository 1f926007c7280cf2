/-! a house: claques, bindings, tire, bind, settle -/
def hClq (h : Nat → Nat → Int32) : Int32 := jfor (fun k c => if rg 7 (h 5) (jn k) = 3 then c + 1 else c) (hS h) 0 0
def hBnd (h : Nat → Nat → Int32) : Int32 := jfor (fun k c => c + bc (rg 7 (h 8) (jn k))) (hS h) 0 0
def hTire1 (k : Nat) (h : Nat → Nat → Int32) : Nat → Nat → Int32 := nset h 3 (rs 7 (h 3) (rg 7 (h 4) (jn k)) (rg 7 (h 3) (rg 7 (h 4) (jn k)) + 1))
def hTire (h : Nat → Nat → Int32) : Nat → Nat → Int32 := jfor hTire1 (hB h) 0 h
def hBind (seat kind clause : Int32) (h : Nat → Nat → Int32) : Nat → Nat → Int32 :=
  if kind = 3 then nset h 8 (rs 7 (h 8) seat (rg 7 (h 8) seat &&& (clause ^^^ (-1))))
  else if ¬ kind = 1 ∨ rg 7 (h 6) seat = 1 then nset h 8 (rs 7 (h 8) seat (rg 7 (h 8) seat ||| clause)) else h
def hBA1 (seen : Nat → Int32) (p : Int32) (kind clause : Int32) (k : Nat) (h : Nat → Nat → Int32) : Nat → Nat → Int32 :=
  if rg 7 seen (jn k) >>> (p &&& 31) &&& 1 = 0 then h else hBind (jn k) kind clause h
def hBA2 (seen : Nat → Int32) (S : Nat) (p : Nat) (h : Nat → Nat → Int32) : Nat → Nat → Int32 :=
  jfor (hBA1 seen (jn p) (rg 7 (h 0) (rg 7 (h 4) (jn p))) (clb (rg 7 (h 2) (rg 7 (h 4) (jn p))))) S 0 h
def hBindAll (seen : Nat → Int32) (h : Nat → Nat → Int32) : Nat → Nat → Int32 := jfor (hBA2 seen (hS h)) (hB h) 0 h
def hSc (h : Nat → Nat → Int32) (s : Nat) (x : Int32) : Nat → Nat → Int32 := nset h 10 (upd (h 10) s x)
def hSettle1 (nv h : Nat → Nat → Int32) : Nat → Nat → Int32 := if nCarry h nv then hSc (hBindAll (nv 3) h) 15 (hBindAll (nv 3) h 10 15 + 1) else h
def hSettle2 (nv h : Nat → Nat → Int32) : Nat → Nat → Int32 := hSc h 13 (jmin 999 (h 10 13 - hClq h + (h 10 11 - hClq h - nv 5 0)))
def hSettle3 (h : Nat → Nat → Int32) : Nat → Nat → Int32 := hSc h 14 (h 10 14 + 1)
def hSettle (nv h : Nat → Nat → Int32) : Nat → Nat → Int32 := hTire (hSettle3 (hSettle2 nv (hSettle1 nv h)))
section JH3
variable {d n i q : Nat} {v : Option jV} {σ' : jS} {M : jM} {x y z : Int32}
theorem c22_loop {h : Nat → Nat → Int32} : ∀ (f k : Nat) (c : Int32), k + f = hS h ∨ (f = 0 ∧ hS h ≤ k ∧ k < 2147483648) → (jE (d + 1) 22 4 [some (.inr (.inr (some (1, (0, i))))), some (.inl c), some (.inl (jn k))] [] (n, ([], sH M i h)) v σ' ↔ v = some (.inl (jfor (fun k c => if rg 7 (h 5) (jn k) = 3 then c + 1 else c) f k c)) ∧ σ' = (n, ([], sH M i h))) := by
  intro f
  have hy := jx_lt (h 10 11)
  have he : hS h = (h 10 11).toNatClampNeg := rfl
  induction f with
  | zero =>
    intro k c hk
    rw [s22_4, s22_5, s22_6, s22_9, sH_s11, if_pos (show h 10 11 ≤ jn k from (jn_ge (by omega)).mpr (by omega)), s22_33, s22_34]
    rfl
  | succ f ih =>
    intro k c hk
    rw [s22_4, s22_5, s22_6, s22_9, sH_s11, if_neg (show ¬ h 10 11 ≤ jn k from fun z => absurd ((jn_ge (by omega)).mp z) (by omega))]
    simp only [s22_12, s22_13, s22_16, s22_17, s22_20, s22_21, s22_24, s22_27, c59, jcall_eq, Option.toList_some, Option.toList_none, List.cons_append, List.nil_append, jl_0, jl_1, jl_2, jl_3, jl_4, jl_5, jl_6, jl_7, jl_8, jl_9, jl_16, jl_17, jl_18, jl_19, jl_20, sH_g0, sH_g1, sH_g2, sH_g3, sH_g4, sH_g5, sH_g6, sH_g7, sH_g8, sH_g9, sH_p0, sH_p1, sH_p2, sH_p3, sH_p4, sH_p5, sH_p6, sH_p7, sH_p8, sH_p9, sH_s10, sH_s11, sH_s12, sH_s13, sH_s14, sH_s15, sH_u10, sH_u11, sH_u12, sH_u13, sH_u14, sH_u15]
    simp only [s22_30, jn_1, ih (k + 1) _ (show k + 1 + f = hS h ∨ (f = 0 ∧ hS h ≤ k + 1 ∧ k + 1 < 2147483648) by omega)]
    rw [jfor]
    by_cases h1 : rg 7 (h 5) (jn k) = 3
    · rw [if_neg (fun z => z h1), if_pos h1]
    · rw [if_pos h1, if_neg h1]
/-- House.claqueurs -/
theorem c22 {h : Nat → Nat → Int32} : jE (d + 1) 22 0 [some (.inr (.inr (some (1, (0, i))))), none, none] [] (n, ([], sH M i h)) v σ' ↔ v = some (.inl (hClq h)) ∧ σ' = (n, ([], sH M i h)) := by
  rw [s22_0, s22_1, s22_2, s22_3]
  exact c22_loop (hS h) 0 0 (by omega)
theorem c23_loop {h : Nat → Nat → Int32} : ∀ (f k : Nat) (c : Int32), k + f = hS h ∨ (f = 0 ∧ hS h ≤ k ∧ k < 2147483648) → (jE (d + 1) 23 4 [some (.inr (.inr (some (1, (0, i))))), some (.inl c), some (.inl (jn k))] [] (n, ([], sH M i h)) v σ' ↔ v = some (.inl (jfor (fun k c => c + bc (rg 7 (h 8) (jn k))) f k c)) ∧ σ' = (n, ([], sH M i h))) := by
  intro f
  have hy := jx_lt (h 10 11)
  have he : hS h = (h 10 11).toNatClampNeg := rfl
  induction f with
  | zero =>
    intro k c hk
    simp only [s23_0, s23_1, s23_2, s23_3, s23_4, s23_5, s23_6, s23_9, s23_12, s23_13, s23_14, s23_17, s23_18, s23_21, s23_24, s23_25, s23_26, s23_32, s23_33, c59, c195, jcall_eq, Option.toList_some, Option.toList_none, List.cons_append, List.nil_append, jl_0, jl_1, jl_2, jl_3, jl_4, jl_5, jl_6, jl_7, jl_8, jl_9, jl_16, jl_17, jl_18, jl_19, jl_20, sH_g0, sH_g1, sH_g2, sH_g3, sH_g4, sH_g5, sH_g6, sH_g7, sH_g8, sH_g9, sH_p0, sH_p1, sH_p2, sH_p3, sH_p4, sH_p5, sH_p6, sH_p7, sH_p8, sH_p9, sH_s10, sH_s11, sH_s12, sH_s13, sH_s14, sH_s15, sH_u10, sH_u11, sH_u12, sH_u13, sH_u14, sH_u15]
    rw [if_pos (show h 10 11 ≤ jn k from (jn_ge (by omega)).mpr (by omega))]
    rfl
  | succ f ih =>
    intro k c hk
    simp only [s23_0, s23_1, s23_2, s23_3, s23_4, s23_5, s23_6, s23_9, s23_12, s23_13, s23_14, s23_17, s23_18, s23_21, s23_24, s23_25, s23_26, s23_32, s23_33, c59, c195, jcall_eq, Option.toList_some, Option.toList_none, List.cons_append, List.nil_append, jl_0, jl_1, jl_2, jl_3, jl_4, jl_5, jl_6, jl_7, jl_8, jl_9, jl_16, jl_17, jl_18, jl_19, jl_20, sH_g0, sH_g1, sH_g2, sH_g3, sH_g4, sH_g5, sH_g6, sH_g7, sH_g8, sH_g9, sH_p0, sH_p1, sH_p2, sH_p3, sH_p4, sH_p5, sH_p6, sH_p7, sH_p8, sH_p9, sH_s10, sH_s11, sH_s12, sH_s13, sH_s14, sH_s15, sH_u10, sH_u11, sH_u12, sH_u13, sH_u14, sH_u15]
    rw [if_neg (show ¬ h 10 11 ≤ jn k from fun z => absurd ((jn_ge (by omega)).mp z) (by omega)), s23_29, jn_1, ih (k + 1) _ (by omega)]
    rfl
/-- House.bindings -/
theorem c23 {h : Nat → Nat → Int32} : jE (d + 1) 23 0 [some (.inr (.inr (some (1, (0, i))))), none, none] [] (n, ([], sH M i h)) v σ' ↔ v = some (.inl (hBnd h)) ∧ σ' = (n, ([], sH M i h)) := by
  rw [s23_0, s23_1, s23_2, s23_3]
  exact c23_loop (hS h) 0 0 (by omega)
/-- House.canOpen -/
theorem c25 {h : Nat → Nat → Int32} : jE (d + 2) 25 0 [some (.inr (.inr (some (1, (0, i)))))] [] (n, ([], sH M i h)) v σ' ↔ v = some (.inl (jb (0 < h 10 12 ∧ hClq h ≤ h 10 13))) ∧ σ' = (n, ([], sH M i h)) := by
  simp only [s25_0, s25_1, s25_4, s25_7, s25_8, s25_11, s25_12, s25_15, s25_18, s25_19, s25_22, s25_23, c22, jcall_eq, Option.toList_some, Option.toList_none, List.cons_append, List.nil_append, sH_g0, sH_g1, sH_g2, sH_g3, sH_g4, sH_g5, sH_g6, sH_g7, sH_g8, sH_g9, sH_p0, sH_p1, sH_p2, sH_p3, sH_p4, sH_p5, sH_p6, sH_p7, sH_p8, sH_p9, sH_s10, sH_s11, sH_s12, sH_s13, sH_s14, sH_s15, sH_u10, sH_u11, sH_u12, sH_u13, sH_u14, sH_u15]
  unfold jb
  by_cases h1 : h 10 12 ≤ 0
  · rw [if_pos h1, if_neg (fun z => absurd z.1 (Int32.not_lt.mpr h1))]
    exact ⟨fun z => z.2, fun z => ⟨by simp, z⟩⟩
  · rw [if_neg h1]
    by_cases h2 : hClq h ≤ h 10 13
    · rw [if_neg (Int32.not_lt.mpr h2), if_pos ⟨Int32.not_le.mp h1, h2⟩]
      exact ⟨fun z => z.2, fun z => ⟨by simp, z⟩⟩
    · rw [if_pos (Int32.not_le.mp h2), if_neg (fun z => h2 z.2)]
      exact ⟨fun z => z.2, fun z => ⟨by simp, z⟩⟩
theorem c27_loop {B : Nat} (hB0 : B < 2147483648) : ∀ (f k : Nat) (h : Nat → Nat → Int32) (a2 : Option jV), (h 10 12).toNatClampNeg = B → k + f = B ∨ (f = 0 ∧ B ≤ k ∧ k < 2147483648) → (jE (d + 1) 27 2 [some (.inr (.inr (some (1, (0, i))))), some (.inl (jn k)), a2] [] (n, ([], sH M i h)) v σ' ↔ v = none ∧ σ' = (n, ([], sH M i (jfor hTire1 f k h)))) := by
  intro f
  induction f with
  | zero =>
    intro k h a2 hb hk
    rw [s27_2, s27_3, s27_4, s27_7, sH_s12, if_pos (show h 10 12 ≤ jn k from (jn_ge (by omega)).mpr (by omega)), s27_43]
    rfl
  | succ f ih =>
    intro k h a2 hb hk
    rw [s27_2, s27_3, s27_4, s27_7, sH_s12, if_neg (show ¬ h 10 12 ≤ jn k from fun z => absurd ((jn_ge (by omega)).mp z) (by omega))]
    simp only [s27_10, s27_11, s27_14, s27_15, s27_18, s27_19, s27_20, s27_23, s27_24, s27_25, s27_28, s27_29, s27_32, s27_33, s27_34, s27_37, c59, c60, jcall_eq, Option.toList_some, Option.toList_none, List.cons_append, List.nil_append, jl_0, jl_1, jl_2, jl_3, jl_4, jl_5, jl_6, jl_7, jl_8, jl_9, jl_16, jl_17, jl_18, jl_19, jl_20, sH_g0, sH_g1, sH_g2, sH_g3, sH_g4, sH_g5, sH_g6, sH_g7, sH_g8, sH_g9, sH_p0, sH_p1, sH_p2, sH_p3, sH_p4, sH_p5, sH_p6, sH_p7, sH_p8, sH_p9, sH_s10, sH_s11, sH_s12, sH_s13, sH_s14, sH_s15, sH_u10, sH_u11, sH_u12, sH_u13, sH_u14, sH_u15]
    rw [s27_40, jn_1]
    exact ih (k + 1) (hTire1 k h) (some (.inl (rg 7 (h 4) (jn k)))) hb (by omega)
/-- House.tire -/
theorem c27 {h : Nat → Nat → Int32} : jE (d + 1) 27 0 [some (.inr (.inr (some (1, (0, i))))), none, none] [] (n, ([], sH M i h)) v σ' ↔ v = none ∧ σ' = (n, ([], sH M i (hTire h))) := by
  rw [s27_0, s27_1]
  have he : hB h = (h 10 12).toNatClampNeg := rfl
  exact c27_loop (B := hB h) (jx_lt (h 10 12)) (hB h) 0 h none rfl (by omega)
/-- House.bind -/
theorem c29 {h : Nat → Nat → Int32} : jE (d + 1) 29 0 [some (.inr (.inr (some (1, (0, i))))), some (.inl x), some (.inl y), some (.inl z)] [] (n, ([], sH M i h)) v σ' ↔ v = none ∧ σ' = (n, ([], sH M i (hBind x y z h))) := by
  simp only [s29_0, s29_1, s29_2, s29_5, s29_6, s29_9, s29_10, s29_11, s29_14, s29_15, s29_18, s29_19, s29_20, s29_21, s29_22, s29_25, s29_28, s29_29, s29_30, s29_33, s29_34, s29_37, s29_38, s29_41, s29_42, s29_45, s29_46, s29_49, s29_50, s29_51, s29_54, s29_55, s29_58, s29_59, s29_60, s29_63, c59, c60, jcall_eq, Option.toList_some, Option.toList_none, List.cons_append, List.nil_append, jl_0, jl_1, jl_2, jl_3, jl_4, jl_5, jl_6, jl_7, jl_8, jl_9, jl_16, jl_17, jl_18, jl_19, jl_20, sH_g0, sH_g1, sH_g2, sH_g3, sH_g4, sH_g5, sH_g6, sH_g7, sH_g8, sH_g9, sH_p0, sH_p1, sH_p2, sH_p3, sH_p4, sH_p5, sH_p6, sH_p7, sH_p8, sH_p9, sH_s10, sH_s11, sH_s12, sH_s13, sH_s14, sH_s15, sH_u10, sH_u11, sH_u12, sH_u13, sH_u14, sH_u15]
  unfold hBind
  by_cases h1 : y = 3
  · rw [if_neg (fun w => w h1), if_pos h1]
  · rw [if_pos h1, if_neg h1]
    by_cases h2 : y = 1
    · rw [if_neg (fun w => w h2)]
      by_cases h3 : rg 7 (h 6) x = 1
      · rw [if_neg (fun w => w h3), if_pos (Or.inr h3)]
      · rw [if_pos h3, if_neg (fun w => by rcases w with w | w; exact w h2; exact h3 w)]
    · rw [if_pos h2, if_pos (Or.inl h2)]
theorem hBind_10 (x y z : Int32) (h : Nat → Nat → Int32) : hBind x y z h 10 = h 10 := by
  unfold hBind
  by_cases h1 : y = 3
  · rw [if_pos h1]; rfl
  · rw [if_neg h1]
    by_cases h2 : ¬ y = 1 ∨ rg 7 (h 6) x = 1
    · rw [if_pos h2]; rfl
    · rw [if_neg h2]
theorem hBA1_10 (seen : Nat → Int32) (p y z : Int32) (k : Nat) (h : Nat → Nat → Int32) : hBA1 seen p y z k h 10 = h 10 := by
  unfold hBA1
  by_cases h1 : rg 7 seen (jn k) >>> (p &&& 31) &&& 1 = 0
  · rw [if_pos h1]
  · rw [if_neg h1, hBind_10]
theorem jfor_10 {f : Nat → (Nat → Nat → Int32) → (Nat → Nat → Int32)} (hf : ∀ k h, f k h 10 = h 10) : ∀ (m k : Nat) (h : Nat → Nat → Int32), jfor f m k h 10 = h 10
  | 0, _, _ => rfl
  | m + 1, k, h => by rw [jfor, jfor_10 hf m (k + 1) (f k h), hf]
theorem hBA2_10 (seen : Nat → Int32) (S p : Nat) (h : Nat → Nat → Int32) : hBA2 seen S p h 10 = h 10 := jfor_10 (fun k h => hBA1_10 seen _ _ _ k h) _ _ _
theorem sH_n19 (M : jM) (i q : Nat) (h : Nat → Nat → Int32) : sH M i h 12 (19, q) = M 12 (19, q) := sH_N (by decide)
theorem c28_in {S : Nat} (hS0 : S < 2147483648) : ∀ (f k : Nat) (h : Nat → Nat → Int32), (h 10 11).toNatClampNeg = S → k + f = S ∨ (f = 0 ∧ S ≤ k ∧ k < 2147483648) → (jE (d + 2) 28 43 [some (.inr (.inr (some (1, (0, i))))), some (.inr (.inr (some (4, (0, q))))), some (.inl x), some (.inl y), some (.inl z), some (.inl (jn k))] [] (n, ([], sH M i h)) v σ' ↔ jE (d + 2) 28 83 [some (.inr (.inr (some (1, (0, i))))), some (.inr (.inr (some (4, (0, q))))), some (.inl x), some (.inl y), some (.inl z), some (.inl (jn (k + f)))] [] (n, ([], sH M i (jfor (hBA1 (M 12 (19, q)) x y z) f k h))) v σ') := by
  intro f
  induction f with
  | zero =>
    intro k h hb hk
    rw [s28_43, s28_45, s28_46, s28_49, sH_s11, if_pos (show h 10 11 ≤ jn k from (jn_ge (by omega)).mpr (by omega))]
    rfl
  | succ f ih =>
    intro k h hb hk
    rw [s28_43, s28_45, s28_46, s28_49, sH_s11, if_neg (show ¬ h 10 11 ≤ jn k from fun z => absurd ((jn_ge (by omega)).mp z) (by omega))]
    simp only [s28_52, s28_53, s28_56, s28_58, s28_61, s28_62, s28_65, s28_68, s28_69, s28_71, s28_72, s28_74, s28_77, c59, c121, c29, jcall_eq, Option.toList_some, Option.toList_none, List.cons_append, List.nil_append, jl_0, jl_1, jl_2, jl_3, jl_4, jl_5, jl_6, jl_7, jl_8, jl_9, jl_16, jl_17, jl_18, jl_19, jl_20, sH_g0, sH_g1, sH_g2, sH_g3, sH_g4, sH_g5, sH_g6, sH_g7, sH_g8, sH_g9, sH_p0, sH_p1, sH_p2, sH_p3, sH_p4, sH_p5, sH_p6, sH_p7, sH_p8, sH_p9, sH_s10, sH_s11, sH_s12, sH_s13, sH_s14, sH_s15, sH_u10, sH_u11, sH_u12, sH_u13, sH_u14, sH_u15, sH_n19, jb_0, Classical.not_not]
    rw [s28_80, s28_80, jn_1, show k + (f + 1) = k + 1 + f by omega, jfor]
    unfold hBA1
    by_cases h1 : rg 7 (M 12 (19, q)) (jn k) >>> (x &&& 31) &&& 1 = 0
    · rw [if_pos h1, if_pos h1]
      exact ih (k + 1) h hb (by omega)
    · rw [if_neg h1, if_neg h1]
      exact ih (k + 1) (hBind (jn k) y z h) (by rw [hBind_10]; exact hb) (by omega)
theorem c28_loop {S B : Nat} (hS0 : S < 2147483648) (hB0 : B < 2147483648) : ∀ (f k : Nat) (h : Nat → Nat → Int32) (a3 a4 a5 : Option jV), (h 10 11).toNatClampNeg = S → (h 10 12).toNatClampNeg = B → k + f = B ∨ (f = 0 ∧ B ≤ k ∧ k < 2147483648) → (jE (d + 2) 28 2 [some (.inr (.inr (some (1, (0, i))))), some (.inr (.inr (some (4, (0, q))))), some (.inl (jn k)), a3, a4, a5] [] (n, ([], sH M i h)) v σ' ↔ v = none ∧ σ' = (n, ([], sH M i (jfor (hBA2 (M 12 (19, q)) S) f k h)))) := by
  intro f
  induction f with
  | zero =>
    intro k h a3 a4 a5 hs hb hk
    rw [s28_2, s28_3, s28_4, s28_7, sH_s12, if_pos (show h 10 12 ≤ jn k from (jn_ge (by omega)).mpr (by omega)), s28_89]
    rfl
  | succ f ih =>
    intro k h a3 a4 a5 hs hb hk
    rw [s28_2, s28_3, s28_4, s28_7, sH_s12, if_neg (show ¬ h 10 12 ≤ jn k from fun z => absurd ((jn_ge (by omega)).mp z) (by omega))]
    simp only [s28_10, s28_11, s28_14, s28_15, s28_18, s28_19, s28_22, s28_25, s28_26, s28_27, s28_28, s28_31, s28_32, s28_35, s28_38, s28_40, s28_41, c59, c24, jcall_eq, Option.toList_some, Option.toList_none, List.cons_append, List.nil_append, jl_0, jl_1, jl_2, jl_3, jl_4, jl_5, jl_6, jl_7, jl_8, jl_9, jl_16, jl_17, jl_18, jl_19, jl_20, sH_g0, sH_g1, sH_g2, sH_g3, sH_g4, sH_g5, sH_g6, sH_g7, sH_g8, sH_g9, sH_p0, sH_p1, sH_p2, sH_p3, sH_p4, sH_p5, sH_p6, sH_p7, sH_p8, sH_p9, sH_s10, sH_s11, sH_s12, sH_s13, sH_s14, sH_s15, sH_u10, sH_u11, sH_u12, sH_u13, sH_u14, sH_u15]
    rw [show (0 : Int32) = jn 0 from rfl, c28_in hS0 S 0 h hs (by omega), s28_83, s28_86, jn_1]
    exact ih (k + 1) (hBA2 (M 12 (19, q)) S k h) _ _ _ (by rw [hBA2_10]; exact hs) (by rw [hBA2_10]; exact hb) (by omega)
/-- House.bindAll -/
theorem c28 {h : Nat → Nat → Int32} : jE (d + 2) 28 0 [some (.inr (.inr (some (1, (0, i))))), some (.inr (.inr (some (4, (0, q))))), none, none, none, none] [] (n, ([], sH M i h)) v σ' ↔ v = none ∧ σ' = (n, ([], sH M i (hBindAll (M 12 (19, q)) h))) := by
  rw [s28_0, s28_1]
  have he : hB h = (h 10 12).toNatClampNeg := rfl
  have he2 : hS h = (h 10 11).toNatClampNeg := rfl
  exact c28_loop (S := hS h) (B := hB h) (jx_lt (h 10 11)) (jx_lt (h 10 12)) (hB h) 0 h none none none rfl rfl (by omega)
theorem rg7E {h h' : Nat → Nat → Int32} (e : hEq h h') {f : Nat} (hf : f < 10) : rg 7 (h f) = rg 7 (h' f) := funext fun x => rg7 (fun s hs => e.1 f hf s hs) x
theorem nCarry_E {h h' : Nat → Nat → Int32} (e : hEq h h') (nv : Nat → Nat → Int32) : nCarry h nv = nCarry h' nv := by
  unfold nCarry
  rw [e.2 11 (by decide) (by decide), e.2 12 (by decide) (by decide)]
theorem nUnfold_E {h h' : Nat → Nat → Int32} (e : hEq h h') (x : Int32) : nUnfold h x = nUnfold h' x := by
  have e1 : ∀ nv p a, nLeave h nv p a = nLeave h' nv p a := fun nv p a => by unfold nLeave; rw [rg7E e (f := 9) (by decide)]
  have e2 : ∀ nv p a, nBore h nv p a = nBore h' nv p a := fun nv p a => by
    unfold nBore nBored nMore
    rw [rg7E e (f := 0) (by decide), rg7E e (f := 1) (by decide), rg7E e (f := 3) (by decide), rg7E e (f := 5) (by decide), rg7E e (f := 6) (by decide), rg7E e (f := 7) (by decide)]
  have e3 : ∀ nv p, nOut h nv p = nOut h' nv p := fun nv p => by
    unfold nOut
    rw [rg7E e (f := 5) (by decide), rg7E e (f := 7) (by decide), rg7E e (f := 9) (by decide)]
  have e4 : ∀ a, nStep1 h a = nStep1 h' a := fun a => by
    funext k nv
    unfold nStep1
    simp only [e1, e2, e3, rg7E e (f := 9) (by decide), rg7E e (f := 4) (by decide)]
  have e5 : ∀ a c, nCough1 h a c = nCough1 h' a c := fun a c => by
    funext k nv
    unfold nCough1
    simp only [e1, rg7E e (f := 9) (by decide)]
  have e6 : ∀ a c, nStage h a c = nStage h' a c := fun a c => by
    funext nv
    unfold nStage hS
    rw [e4, e5, e.2 11 (by decide) (by decide)]
  unfold nUnfold hB
  simp only [e6, e.2 12 (by decide) (by decide)]
end JH3
