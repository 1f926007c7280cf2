/-! the search for the best line: trial house 13, night 9 -/
def swp (c : Nat → Int32) (i j : Nat) : Nat → Int32 := upd (upd c i (c j)) j (c i)
/-- one more than the last place from which the line still rises, or 0 -/
def nlLow (c : Nat → Int32) : Nat → Nat
  | 0 => 0
  | l + 1 => if c (l + 1) < c l then nlLow c l else l + 1
def nlHigh (c : Nat → Int32) (lo : Nat) : Nat → Nat
  | 0 => 0
  | h + 1 => if lo < h + 1 ∧ c (h + 1) < c lo then nlHigh c lo h else h + 1
def nlRev : Nat → Nat → Nat → (Nat → Int32) → (Nat → Int32)
  | 0, _, _, c => c
  | f + 1, i, j, c => if i < j then nlRev f (i + 1) (j - 1) (swp c i j) else c
def nlNext (n : Nat) (c : Nat → Int32) : Nat → Int32 :=
  if nlLow c (n - 1) = 0 then c else nlRev 7 (nlLow c (n - 1)) (n - 1) (swp c (nlLow c (n - 1) - 1) (nlHigh c (nlLow c (n - 1) - 1) (n - 1)))
section JLN
variable {d n i q : Nat} {v : Option jV} {σ' : jS} {M : jM} {x y z : Int32} {h nv : Nat → Nat → Int32}
theorem b62 {a b : Nat} (ha : a < 7) (hb : b < 7) : jE (d + 1) 62 0 [some (.inr (.inr (some (6, (9, i))))), some (.inl (jn a)), some (.inl (jn b)), none] [] (n, ([], sH M i h)) v σ' ↔ v = none ∧ σ' = (n, ([], sH M i (nset h 9 (swp (h 9) a b)))) := by
  rw [c62, jl_9, rg_in (by omega) ha, rg_in (by omega) hb, rs_in (by omega) ha, rs_in (by omega) hb]
  rw [sH_cells (f := 9) (c' := swp (h 9) a b) (by decide) (fun s hs => ?_) (fun s hs => ?_)]
  · unfold swp upd
    by_cases h1 : s = b
    · rw [if_pos h1, if_pos h1, sH_row (by decide) ha]
    · rw [if_neg h1, if_neg h1]
      by_cases h2 : s = a
      · rw [if_pos h2, if_pos h2, sH_row (by decide) hb]
      · rw [if_neg h2, if_neg h2, sH_row (by decide) hs]
  · unfold upd
    rw [if_neg (by omega), if_neg (by omega), sH_row7 hs]
theorem sH_r9 {k : Nat} (hk : k < 7) : rg 7 (sH M i h 12 (9, i)) (jn k) = h 9 k := by
  rw [sH_g9, rg_in (by omega) hk]
theorem c37_low : ∀ (l : Nat), l < 7 → (jE (d + 2) 37 18 [some (.inr (.inr (some (3, (0, 0))))), some (.inr (.inr (some (6, (9, 13))))), some (.inl (jn l - 1)), none, none, none] [] (n, ([], sH M 13 h)) v σ' ↔ jE (d + 2) 37 43 [some (.inr (.inr (some (3, (0, 0))))), some (.inr (.inr (some (6, (9, 13))))), some (.inl (jn (nlLow (h 9) l) - 1)), none, none, none] [] (n, ([], sH M 13 h)) v σ') := by
  intro l
  induction l with
  | zero =>
    intro hl
    rw [s37_18, s37_19, if_pos (by decide)]
    rfl
  | succ l ih =>
    intro hl
    rw [jn_sub1, nlLow, s37_18, s37_19, if_neg (jn_npos (by omega))]
    simp only [s37_22, s37_23, s37_24, s37_27, s37_28, s37_29, s37_30, s37_31, s37_34, s37_37, c59, jcall_eq, Option.toList_some, Option.toList_none, List.cons_append, List.nil_append, jl_0, jl_1, jl_2, jl_3, jl_4, jl_5, jl_6, jl_7, jl_8, jl_9, jl_16, jl_17, jl_18, jl_19, jl_20, jn_1, sH_r9 (show l < 7 by omega), sH_r9 hl]
    rw [s37_40]
    by_cases h1 : h 9 (l + 1) < h 9 l
    · rw [if_neg (Int32.not_le.mpr h1), if_pos h1]
      rw [← ih (by omega)]
      rw [show jn l + (-1) = jn l - 1 from (Int32.sub_eq_add_neg _ _).symm]
    · rw [if_pos (Int32.not_lt.mp h1), if_neg h1, jn_sub1]
theorem c37_high {lo : Nat} (hlo : lo < 7) : ∀ (t : Nat), t < 7 → lo < t → (jE (d + 2) 37 59 [some (.inr (.inr (some (3, (0, 0))))), some (.inr (.inr (some (6, (9, 13))))), some (.inl (jn lo)), some (.inl (jn t)), none, none] [] (n, ([], sH M 13 h)) v σ' ↔ jE (d + 2) 37 83 [some (.inr (.inr (some (3, (0, 0))))), some (.inr (.inr (some (6, (9, 13))))), some (.inl (jn lo)), some (.inl (jn (nlHigh (h 9) lo t))), none, none] [] (n, ([], sH M 13 h)) v σ') := by
  intro t
  induction t with
  | zero => intro _ h; omega
  | succ t ih =>
    intro ht hlt
    rw [nlHigh, s37_59, s37_60, s37_61, if_neg (fun z => absurd ((jn_le (by omega) (by omega)).mp z) (by omega))]
    simp only [s37_64, s37_65, s37_66, s37_69, s37_70, s37_71, s37_74, s37_77, c59, jcall_eq, Option.toList_some, Option.toList_none, List.cons_append, List.nil_append, jl_0, jl_1, jl_2, jl_3, jl_4, jl_5, jl_6, jl_7, jl_8, jl_9, jl_16, jl_17, jl_18, jl_19, jl_20, sH_r9 ht, sH_r9 hlo]
    rw [s37_80]
    by_cases h1 : h 9 (t + 1) < h 9 lo
    · rw [if_neg (Int32.not_le.mpr h1), if_pos ⟨hlt, h1⟩, show jn (t + 1) + (-1) = jn t by rw [← jn_sub1 t]; exact (Int32.sub_eq_add_neg _ _).symm]
      by_cases h2 : lo < t
      · rw [← ih (by omega) h2]
      · have h3 : lo = t := by omega
        subst h3
        rw [s37_59, s37_60, s37_61, if_pos ((jn_le (by omega) (by omega)).mpr (by omega))]
        cases lo with
        | zero => rfl
        | succ l => rw [nlHigh, if_neg (by omega)]
    · rw [if_pos (Int32.not_lt.mp h1), if_neg (fun z => h1 z.2)]
theorem c37_rev : ∀ (f a b : Nat) (h : Nat → Nat → Int32) (a2 a3 : Option jV), 0 < a → a ≤ 7 → b < 7 → b < a + 2 * f → (jE (d + 2) 37 105 [some (.inr (.inr (some (3, (0, 0))))), some (.inr (.inr (some (6, (9, 13))))), a2, a3, some (.inl (jn a)), some (.inl (jn b))] [] (n, ([], sH M 13 h)) v σ' ↔ v = some (.inl 1) ∧ σ' = (n, ([], sH M 13 (nset h 9 (nlRev f a b (h 9)))))) := by
  intro f
  induction f with
  | zero =>
    intro a b h a2 a3 h0 ha hb hf
    rw [s37_105, s37_107, s37_109, if_pos ((jn_le (by omega) (by omega)).mpr (by omega)), s37_129, s37_130]
    have e : nset h 9 (nlRev 0 a b (h 9)) = h := by
      funext f
      unfold nset nlRev
      by_cases h1 : f = 9
      · rw [if_pos h1, h1]
      · rw [if_neg h1]
    rw [e]
    exact ⟨fun w => w.2, fun w => ⟨by simp, w⟩⟩
  | succ f ih =>
    intro a b h a2 a3 h0 ha hb hf
    rw [nlRev, s37_105, s37_107, s37_109]
    by_cases h1 : a < b
    · rw [if_neg (fun z => absurd ((jn_le (by omega) (by omega)).mp z) (by omega)), if_pos h1]
      simp only [s37_112, s37_113, s37_115, s37_117, s37_120, s37_123, b62 (show a < 7 by omega) hb, jcall_eq, Option.toList_some, Option.toList_none, List.cons_append, List.nil_append]
      rw [s37_126, jn_1, show jn b + (-1) = jn (b - 1) by conv => lhs; rw [show b = b - 1 + 1 by omega, show (jn (b - 1 + 1) + (-1) : Int32) = jn (b - 1 + 1) - 1 from (Int32.sub_eq_add_neg _ _).symm, jn_sub1]]
      rw [ih (a + 1) (b - 1) _ a2 a3 (by omega) (by omega) (by omega) (by omega)]
      have e : ∀ c c' : Nat → Int32, nset (nset h 9 c) 9 c' = nset h 9 c' := fun c c' => by
        funext f
        unfold nset
        by_cases h1 : f = 9
        · rw [if_pos h1, if_pos h1]
        · rw [if_neg h1, if_neg h1, if_neg h1]
      rw [e, nset_at]
    · rw [if_pos ((jn_le (by omega) (by omega)).mpr (by omega)), if_neg h1, s37_129, s37_130]
      have e : nset h 9 (h 9) = h := by
        funext f
        unfold nset
        by_cases h1 : f = 9
        · rw [if_pos h1, h1]
        · rw [if_neg h1]
      rw [e]
      exact ⟨fun w => w.2, fun w => ⟨by simp, w⟩⟩
theorem nlLow_le (c : Nat → Int32) : ∀ l, nlLow c l ≤ l
  | 0 => Nat.le_refl 0
  | l + 1 => by
    rw [nlLow]
    by_cases h : c (l + 1) < c l
    · rw [if_pos h]
      exact Nat.le_succ_of_le (nlLow_le c l)
    · rw [if_neg h]
      exact Nat.le_refl _
theorem nlHigh_le (c : Nat → Int32) (lo : Nat) : ∀ l, nlHigh c lo l ≤ l
  | 0 => Nat.le_refl 0
  | l + 1 => by
    rw [nlHigh]
    by_cases h : lo < l + 1 ∧ c (l + 1) < c lo
    · rw [if_pos h]
      exact Nat.le_succ_of_le (nlHigh_le c lo l)
    · rw [if_neg h]
      exact Nat.le_refl _
theorem jb_t {p : Prop} [Decidable p] (h : p) : jb p = 1 := if_pos h
theorem jb_f {p : Prop} [Decidable p] (h : ¬ p) : jb p = 0 := if_neg h
/-- Lineup.nextLine -/
theorem c37 {m : Nat} (hs : h 10 11 = jn m) (h1 : 1 ≤ m) (h7 : m ≤ 7) : jE (d + 2) 37 0 [some (.inr (.inr (some (3, (0, 0))))), none, none, none, none, none] [] (n, ([], sH M 13 h)) v σ' ↔ v = some (.inl (jb (¬ nlLow (h 9) (m - 1) = 0))) ∧ σ' = (n, ([], sH M 13 (nset h 9 (nlNext m (h 9))))) := by
  have e1 : jn m - 2 = jn (m - 1) - 1 := by
    conv => lhs; rw [show m = m - 1 + 1 by omega, ← jn_1]
    rw [Int32.sub_eq_add_neg, Int32.sub_eq_add_neg, Int32.add_assoc]
    rfl
  have e2 : jn m - 1 = jn (m - 1) := by
    conv => lhs; rw [show m = m - 1 + 1 by omega]
    exact jn_sub1 _
  have e0 : nset h 9 (h 9) = h := by
    funext f
    unfold nset
    by_cases h1 : f = 9
    · rw [if_pos h1, h1]
    · rw [if_neg h1]
  simp only [s37_0, s37_1, s37_4, s37_7, s37_8, s37_9, s37_12, s37_15, s37_16, s37_17, sH_g0, sH_g1, sH_g2, sH_g3, sH_g4, sH_g5, sH_g6, sH_g7, sH_g8, sH_g9, sH_p0, sH_p1, sH_p2, sH_p3, sH_p4, sH_p5, sH_p6, sH_p7, sH_p8, sH_p9, sH_s10, sH_s11, sH_s12, sH_s13, sH_s14, sH_s15, sH_u10, sH_u11, sH_u12, sH_u13, sH_u14, sH_u15, hs, e1]
  rw [c37_low (m - 1) (by omega)]
  have hl := nlLow_le (h 9) (m - 1)
  unfold nlNext
  generalize hL : nlLow (h 9) (m - 1) = L at hl ⊢
  cases L with
  | zero =>
    rw [s37_43, s37_44, if_neg (by decide), s37_47, s37_48, if_pos rfl, jb_f (fun z => z rfl), e0]
    exact ⟨fun w => w.2, fun w => ⟨by simp, w⟩⟩
  | succ L =>
    have hh := nlHigh_le (h 9) L (m - 1)
    rw [jn_sub1, s37_43, s37_44, if_pos (jn_pos (by omega)), if_neg (by omega), jb_t (by omega)]
    simp only [s37_49, s37_50, s37_53, s37_56, s37_57, s37_58, sH_g0, sH_g1, sH_g2, sH_g3, sH_g4, sH_g5, sH_g6, sH_g7, sH_g8, sH_g9, sH_p0, sH_p1, sH_p2, sH_p3, sH_p4, sH_p5, sH_p6, sH_p7, sH_p8, sH_p9, sH_s10, sH_s11, sH_s12, sH_s13, sH_s14, sH_s15, sH_u10, sH_u11, sH_u12, sH_u13, sH_u14, sH_u15, hs, e2]
    rw [c37_high (by omega) (m - 1) (by omega) (by omega)]
    simp only [s37_83, s37_84, s37_85, s37_86, s37_89, s37_90, s37_91, s37_92, s37_94, s37_95, s37_98, s37_101, s37_102, s37_103, b62 (show L < 7 by omega) (show nlHigh (h 9) L (m - 1) < 7 by omega), jcall_eq, Option.toList_some, Option.toList_none, List.cons_append, List.nil_append, sH_g0, sH_g1, sH_g2, sH_g3, sH_g4, sH_g5, sH_g6, sH_g7, sH_g8, sH_g9, sH_p0, sH_p1, sH_p2, sH_p3, sH_p4, sH_p5, sH_p6, sH_p7, sH_p8, sH_p9, sH_s10, sH_s11, sH_s12, sH_s13, sH_s14, sH_s15, sH_u10, sH_u11, sH_u12, sH_u13, sH_u14, sH_u15, nset_ne (show (10 : Nat) ≠ 9 by decide), hs, e2, jn_1]
    rw [c37_rev 7 (L + 1) (m - 1) _ _ _ (by omega) (by omega) (by omega) (by omega), nset_at, Nat.add_sub_cancel]
    have e : ∀ c c' : Nat → Int32, nset (nset h 9 c) 9 c' = nset h 9 c' := fun c c' => by
      funext f
      unfold nset
      by_cases h1 : f = 9
      · rw [if_pos h1, if_pos h1]
      · rw [if_neg h1, if_neg h1, if_neg h1]
    rw [e]
def hPut9 (h : Nat → Nat → Int32) (k : Nat) : Nat → Nat → Int32 := nset h 9 (rs 7 (h 9) 0 (jn k))
def paStep (k : Nat) (o : Int32 × (Nat → Nat → Int32)) : Int32 × (Nat → Nat → Int32) := (if nUnfold (hPut9 o.2 k) 0 5 0 = 0 then o.1 + 1 else o.1, hPut9 o.2 k)
theorem c35_loop : ∀ (f k : Nat) (o : Int32 × (Nat → Nat → Int32)) (nv : Nat → Nat → Int32), k + f = hS (gH M 1) ∨ (f = 0 ∧ hS (gH M 1) ≤ k ∧ k < 2147483648) → ∃ h' nv', jE (d + 4) 35 20 [some (.inr (.inr (some (3, (0, 0))))), some (.inr (.inr (some (1, (0, 1))))), some (.inl o.1), some (.inl (jn k))] [] (n, ([], sH (sN M 9 nv) 13 o.2)) (some (.inl (jfor paStep f k o).1)) (n, ([], sH (sN M 9 nv') 13 h')) := by
  intro f
  have hy := jx_lt (M 1 (0, 1) 11)
  have he : hS (gH M 1) = (M 1 (0, 1) 11).toNatClampNeg := rfl
  induction f with
  | zero =>
    intro k o nv hk
    refine ⟨o.2, nv, ?_⟩
    rw [s35_20, s35_21, s35_22, s35_25, sH_other (by decide), sN_1, if_pos (show M 1 (0, 1) 11 ≤ jn k from (jn_ge (by omega)).mpr (by omega)), s35_71, s35_72]
    exact ⟨rfl, rfl⟩
  | succ f ih =>
    intro k o nv hk
    simp only [jfor]
    obtain ⟨h', nv', e⟩ := ih (k + 1) (paStep k o) (nUnfold (hPut9 o.2 k) 0) (by omega)
    refine ⟨h', nv', ?_⟩
    rw [s35_20, s35_21, s35_22, s35_25, sH_other (by decide), sN_1, if_neg (show ¬ M 1 (0, 1) 11 ≤ jn k from fun z => absurd ((jn_ge (by omega)).mp z) (by omega))]
    have e5 : ∀ (h nv : Nat → Nat → Int32), sH (sN M 9 nv) 13 h 4 (0, 9) 5 = nv 5 0 := fun h nv => by rw [sH_k (by decide) (by decide), sN_gone]
    simp only [s35_28, s35_29, s35_32, s35_35, s35_36, s35_37, s35_40, s35_41, s35_44, s35_45, s35_48, s35_49, s35_52, s35_53, s35_56, s35_59, s35_62, s35_65, c60, c41, jcall_eq, Option.toList_some, Option.toList_none, List.cons_append, List.nil_append, jl_0, jl_1, jl_2, jl_3, jl_4, jl_5, jl_6, jl_7, jl_8, jl_9, jl_16, jl_17, jl_18, jl_19, jl_20, sH_g0, sH_g1, sH_g2, sH_g3, sH_g4, sH_g5, sH_g6, sH_g7, sH_g8, sH_g9, sH_p0, sH_p1, sH_p2, sH_p3, sH_p4, sH_p5, sH_p6, sH_p7, sH_p8, sH_p9, sH_s10, sH_s11, sH_s12, sH_s13, sH_s14, sH_s15, sH_u10, sH_u11, sH_u12, sH_u13, sH_u14, sH_u15, sT_comm, sN_sN, nUnfold_T, e5]
    rw [s35_68, s35_68, jn_1]
    unfold paStep at e ⊢
    rw [show nset o.2 9 (rs 7 (o.2 9) 0 (jn k)) = hPut9 o.2 k from rfl]
    by_cases h1 : nUnfold (hPut9 o.2 k) 0 5 0 = 0
    · rw [if_pos h1] at e ⊢
      rw [if_neg (fun w => w h1)]
      exact e
    · rw [if_neg h1] at e ⊢
      rw [if_pos h1]
      exact e
def hPatient (H : Nat → Nat → Int32) : Int32 := (jfor paStep (hS H) 0 (0, hSc H 11 1)).1
/-- Lineup.patientAlone -/
theorem c35 : ∃ h' nv', jE (d + 4) 35 0 [some (.inr (.inr (some (3, (0, 0))))), some (.inr (.inr (some (1, (0, 1))))), none, none] [] (n, ([], M)) (some (.inl (hPatient (gH M 1)))) (n, ([], sH (sN M 9 nv') 13 h')) := by
  obtain ⟨h', nv', e⟩ := c35_loop (d := d) (n := n) (M := M) (hS (gH M 1)) 0 (0, hSc (gH M 1) 11 1) (gN M 9) (by omega)
  refine ⟨h', nv', ?_⟩
  rw [sN_self] at e
  simp only [s35_0, s35_1, s35_2, s35_3, s35_6, s35_7, s35_10, s35_11, s35_14, s35_15, s35_18, s35_19, c9 (show (1 : Nat) ≠ 13 by decide), jcall_eq, Option.toList_some, Option.toList_none, List.cons_append, List.nil_append, sH_g0, sH_g1, sH_g2, sH_g3, sH_g4, sH_g5, sH_g6, sH_g7, sH_g8, sH_g9, sH_p0, sH_p1, sH_p2, sH_p3, sH_p4, sH_p5, sH_p6, sH_p7, sH_p8, sH_p9, sH_s10, sH_s11, sH_s12, sH_s13, sH_s14, sH_s15, sH_u10, sH_u11, sH_u12, sH_u13, sH_u14, sH_u15]
  exact e
/-- the lineup's numbers: its row (34), staying and foundStamp -/
def mL (M : jM) (c : Nat → Int32) (s : Int32) : jM := fun k a j => if k = 12 ∧ a = (34, 0) ∧ j < 7 then c j else if k = 3 ∧ a = (0, 0) ∧ j = 3 then s else M k a j
theorem mL_k {c : Nat → Int32} {s : Int32} {k : Nat} (h1 : k ≠ 12) (h2 : k ≠ 3) : mL M c s k = M k := by
  funext a j
  unfold mL
  rw [if_neg (fun z => h1 z.1), if_neg (fun z => h2 z.1)]
theorem mL_12 {c : Nat → Int32} {s : Int32} {a : jA} (h1 : a ≠ (34, 0)) : mL M c s 12 a = M 12 a := by
  funext j
  unfold mL
  rw [if_neg (fun z => h1 z.2.1), if_neg (fun z => by cases z.1)]
theorem mL_s {c : Nat → Int32} {s : Int32} : mL M c s 3 (0, 0) 3 = s := by
  unfold mL
  rw [if_neg (fun z => by cases z.1), if_pos ⟨rfl, rfl, rfl⟩]
theorem mL_4 {c : Nat → Int32} {s : Int32} : mL M c s 3 (0, 0) 4 = M 3 (0, 0) 4 := by
  unfold mL
  rw [if_neg (fun z => by cases z.1), if_neg (fun z => by cases z.2.2)]
theorem mL_self : mL M (M 12 (34, 0)) (M 3 (0, 0) 3) = M := by
  funext k a j
  unfold mL
  by_cases h : k = 12 ∧ a = (34, 0) ∧ j < 7
  · rw [if_pos h, h.1, h.2.1]
  · rw [if_neg h]
    by_cases h2 : k = 3 ∧ a = (0, 0) ∧ j = 3
    · rw [if_pos h2, h2.1, h2.2.1, h2.2.2]
    · rw [if_neg h2]
theorem gH_mL (c : Nat → Int32) (s : Int32) (i : Nat) : gH (mL M c s) i = gH M i := by
  funext f
  unfold gH
  by_cases h : f < 10
  · rw [if_pos h, if_pos h, mL_12 (fun z => by have := (Prod.mk.inj z).1; omega)]
  · rw [if_neg h, if_neg h, mL_k (by decide) (by decide)]
theorem mL_put (c : Nat → Int32) (s x : Int32) : jUp (mL M c s) 3 (0, 0) 3 x = mL M c x := by
  funext k a j
  show (if k = 3 ∧ a = (0, 0) ∧ j = 3 then x else if k = 12 ∧ a = (34, 0) ∧ j < 7 then c j else if k = 3 ∧ a = (0, 0) ∧ j = 3 then s else M k a j) = if k = 12 ∧ a = (34, 0) ∧ j < 7 then c j else if k = 3 ∧ a = (0, 0) ∧ j = 3 then x else M k a j
  by_cases h : k = 3 ∧ a = (0, 0) ∧ j = 3
  · rw [if_pos h, if_neg (by omega), if_pos h]
  · rw [if_neg h, if_neg h, if_neg h]
theorem sT_pt {M M' : jM} {k s : Nat} {a : jA} (e : M k a s = M' k a s) : sH (sN M q nv) i h k a s = sH (sN M' q nv) i h k a s := by
  unfold sH sN
  rw [e]
theorem mL_row (c : Nat → Int32) (s : Int32) : mC (sH (sN (mL M c s) 9 nv) 13 h) (34, 0) (rfill 7 (sH (sN (mL M c s) 9 nv) 13 h 12 (34, 0)) (sH (sN (mL M c s) 9 nv) 13 h 12 (9, 13))) = sH (sN (mL M (h 9) s) 9 nv) 13 h := by
  have e1 : ∀ N : jM, sH (sN N 9 nv) 13 h 12 (34, 0) = N 12 (34, 0) := fun N => by rw [sH_N (f := 34) (by decide), sN_R (f := 34) (by decide)]
  funext k a j
  unfold mC rfill
  by_cases h1 : k = 12 ∧ a = (34, 0)
  · rw [if_pos h1, h1.1, h1.2, e1, e1]
    by_cases h2 : j < 7
    · have hp : (12 : Nat) = 12 ∧ ((34, 0) : jA) = (34, 0) ∧ j < 7 := ⟨rfl, rfl, h2⟩
      rw [if_pos h2, sH_row (by decide) h2]
      unfold mL
      rw [if_pos hp]
    · have hp : ¬ ((12 : Nat) = 12 ∧ ((34, 0) : jA) = (34, 0) ∧ j < 7) := fun z => h2 z.2.2
      rw [if_neg h2]
      unfold mL
      rw [if_neg hp, if_neg hp]
  · have hp : ¬ (k = 12 ∧ a = (34, 0) ∧ j < 7) := fun z => h1 ⟨z.1, z.2.1⟩
    rw [if_neg h1]
    apply sT_pt
    unfold mL
    rw [if_neg hp, if_neg hp]
theorem mL_cx {c c' : Nat → Int32} (s : Int32) (h : ∀ j, j < 7 → c j = c' j) : mL M c s = mL M c' s := by
  funext k a j
  unfold mL
  by_cases h2 : k = 12 ∧ a = (34, 0) ∧ j < 7
  · rw [if_pos h2, if_pos h2, h j h2.2.2]
  · rw [if_neg h2, if_neg h2]
def tlStep (h : Nat → Nat → Int32) (o : (Nat → Int32) × Int32) : (Nat → Int32) × Int32 := if o.2 < h 10 11 - nUnfold h 0 5 0 then (h 9, h 10 11 - nUnfold h 0 5 0) else o
/-- Lineup.tryLine -/
theorem c36 {o : (Nat → Int32) × Int32} : jE (d + 4) 36 0 [some (.inr (.inr (some (3, (0, 0))))), none] [] (n, ([], sH (sN (mL M o.1 o.2) 9 nv) 13 h)) v σ' ↔ v = none ∧ σ' = (n, ([], sH (sN (mL M (tlStep h o).1 (tlStep h o).2) 9 (nUnfold h 0)) 13 h)) := by
  have e5 : ∀ (h nv : Nat → Nat → Int32), sH (sN (mL M o.1 o.2) 9 nv) 13 h 4 (0, 9) 5 = nv 5 0 := fun h nv => by rw [sH_k (by decide) (by decide), sN_gone]
  have e3 : ∀ (h nv : Nat → Nat → Int32) (N : jM), sH (sN N 9 nv) 13 h 3 = N 3 := fun h nv N => by rw [sH_k (by decide) (by decide), sN_k _ _ _ (by decide) (by decide)]
  simp only [s36_0, s36_1, s36_4, s36_5, s36_8, s36_9, s36_12, s36_13, s36_16, s36_19, s36_20, s36_23, s36_26, s36_27, s36_28, s36_29, s36_30, s36_33, s36_36, s36_37, s36_38, s36_39, s36_42, s36_43, s36_46, s36_47, s36_50, s36_53, s36_56, c41, jcall_eq, Option.toList_some, Option.toList_none, List.cons_append, List.nil_append, sH_g0, sH_g1, sH_g2, sH_g3, sH_g4, sH_g5, sH_g6, sH_g7, sH_g8, sH_g9, sH_p0, sH_p1, sH_p2, sH_p3, sH_p4, sH_p5, sH_p6, sH_p7, sH_p8, sH_p9, sH_s10, sH_s11, sH_s12, sH_s13, sH_s14, sH_s15, sH_u10, sH_u11, sH_u12, sH_u13, sH_u14, sH_u15, sT_comm, sN_sN, nUnfold_T, e5, e3, mL_s, up_sH (show (3 : Nat) ≠ 12 by decide) (show (3 : Nat) ≠ 1 by decide), up_sN (show (3 : Nat) ≠ 12 by decide) (show (3 : Nat) ≠ 4 by decide), mL_put]
  unfold tlStep
  by_cases h1 : o.2 < h 10 11 - nUnfold h 0 5 0
  · rw [if_pos h1, if_pos h1]
    simp only [c67 (a := (34, 0)) (b := (9, 13)) rfl, jcall_eq, Option.toList_some, Option.toList_none, List.cons_append, List.nil_append, jl_34, mL_row, s36_56]
  · rw [if_neg h1, if_neg h1]
def lfRun (m : Nat) (enough : Int32) : Nat → Int32 → (Nat → Nat → Int32) → (Nat → Int32) × Int32 → (Nat → Int32) × Int32
  | 0, _, _, o => o
  | f + 1, mo, h, o => if mo = 0 then o else if enough ≤ o.2 then o else lfRun m enough f (jb (¬ nlLow (h 9) (m - 1) = 0)) (nset h 9 (nlNext m (h 9))) (tlStep h o)
theorem c34_loop {m : Nat} (h1 : 1 ≤ m) (h7 : m ≤ 7) : ∀ (f k : Nat) (mo : Int32) (h nv : Nat → Nat → Int32) (o : (Nat → Int32) × Int32), k + f = 5040 → h 10 11 = jn m → ∃ h' nv', jE (d + 5) 34 50 [some (.inr (.inr (some (3, (0, 0))))), some (.inr (.inr (some (1, (0, 1))))), some (.inl x), some (.inl y), some (.inl mo), some (.inl (jn k))] [] (n, ([], sH (sN (mL M o.1 o.2) 9 nv) 13 h)) none (n, ([], sH (sN (mL M (lfRun m y f mo h o).1 (lfRun m y f mo h o).2) 9 nv') 13 h')) := by
  intro f
  have e3 : ∀ (h nv : Nat → Nat → Int32) (N : jM), sH (sN N 9 nv) 13 h 3 = N 3 := fun h nv N => by rw [sH_k (by decide) (by decide), sN_k _ _ _ (by decide) (by decide)]
  induction f with
  | zero =>
    intro k mo h nv o hk hm
    refine ⟨h, nv, ?_⟩
    rw [s34_50, s34_52, s34_55, if_pos (show (5040 : Int32) ≤ jn k from (jn_le (k := 5040) (by omega) (by omega)).mpr (by omega)), s34_87]
    exact ⟨rfl, rfl⟩
  | succ f ih =>
    intro k mo h nv o hk hm
    rw [lfRun]
    by_cases h2 : mo = 0
    · refine ⟨h, nv, ?_⟩
      rw [s34_50, s34_52, s34_55, if_neg (show ¬ (5040 : Int32) ≤ jn k from fun z => absurd ((jn_le (k := 5040) (by omega) (by omega)).mp z) (by omega)), s34_58, s34_60, if_pos h2, s34_87, if_pos h2]
      exact ⟨rfl, rfl⟩
    · rw [if_neg h2]
      by_cases h3 : y ≤ o.2
      · refine ⟨h, nv, ?_⟩
        rw [s34_50, s34_52, s34_55, if_neg (show ¬ (5040 : Int32) ≤ jn k from fun z => absurd ((jn_le (k := 5040) (by omega) (by omega)).mp z) (by omega)), s34_58, s34_60, if_neg h2, s34_63, s34_64, s34_67, s34_68, e3, mL_s, if_pos h3, s34_87, if_pos h3]
        exact ⟨rfl, rfl⟩
      · rw [if_neg h3]
        obtain ⟨h', nv', e⟩ := ih (k + 1) (jb (¬ nlLow (h 9) (m - 1) = 0)) (nset h 9 (nlNext m (h 9))) (nUnfold h 0) (tlStep h o) (by omega) (by rw [nset_ne (by decide)]; exact hm)
        refine ⟨h', nv', ?_⟩
        rw [s34_50, s34_52, s34_55, if_neg (show ¬ (5040 : Int32) ≤ jn k from fun z => absurd ((jn_le (k := 5040) (by omega) (by omega)).mp z) (by omega)), s34_58, s34_60, if_neg h2, s34_63, s34_64, s34_67, s34_68, e3, mL_s, if_neg h3]
        simp only [s34_71, s34_72, s34_75, s34_76, s34_79, s34_81, c36, c37 hm h1 h7, jcall_eq, Option.toList_some, Option.toList_none, List.cons_append, List.nil_append]
        rw [s34_84, jn_1]
        exact e
def hLine0 (H : Nat → Nat → Int32) : Nat → Nat → Int32 := nset H 9 jn
def lfBest (H : Nat → Nat → Int32) (c : Nat → Int32) (m : Nat) : (Nat → Int32) × Int32 := lfRun m (hPatient H) 5040 1 (hLine0 H) (c, -4)
/-- Lineup.find -/
theorem c34_old (hx : x = M 3 (0, 0) 4) : jE (d + 5) 34 0 [some (.inr (.inr (some (3, (0, 0))))), some (.inr (.inr (some (1, (0, 1))))), some (.inl x), none, none, none] [] (n, ([], M)) v σ' ↔ v = none ∧ σ' = (n, ([], M)) := by
  rw [s34_0, s34_1, s34_2, s34_5, if_neg (fun w => w hx), s34_8]
theorem c34_new {m : Nat} (hs : gH M 1 10 11 = jn m) (h1 : 1 ≤ m) (h7 : m ≤ 7) (hx : ¬ x = M 3 (0, 0) 4) : ∃ h' nv', jE (d + 5) 34 0 [some (.inr (.inr (some (3, (0, 0))))), some (.inr (.inr (some (1, (0, 1))))), some (.inl x), none, none, none] [] (n, ([], M)) none (n, ([], sH (sN (mL (jUp M 3 (0, 0) 4 x) (lfBest (gH M 1) (M 12 (34, 0)) m).1 (lfBest (gH M 1) (M 12 (34, 0)) m).2) 9 nv') 13 h')) := by
  have e3 : ∀ (h nv : Nat → Nat → Int32) (N : jM), sH (sN N 9 nv) 13 h 3 = N 3 := fun h nv N => by rw [sH_k (by decide) (by decide), sN_k _ _ _ (by decide) (by decide)]
  have eg : gH (jUp M 3 (0, 0) 4 x) 1 = gH M 1 := by
    funext f
    unfold gH
    rw [jUp_k (by decide), jUp_k (by decide)]
  obtain ⟨h2, nv2, e2⟩ := c35 (d := d) (n := n) (M := jUp M 3 (0, 0) 4 x)
  obtain ⟨h', nv', e⟩ := c34_loop (d := d) (n := n) (M := jUp M 3 (0, 0) 4 x) (x := x) (y := hPatient (gH M 1)) h1 h7 5040 0 1 (hLine0 (gH M 1)) nv2 (M 12 (34, 0), -4) (by omega) hs
  refine ⟨h', nv', ?_⟩
  rw [eg] at e2
  have hi := fun (v : Option jV) (σ' : jS) => jE_iff (v := v) (σ' := σ') e2
  have e4 : jUp (sH (sN (jUp M 3 (0, 0) 4 x) 9 nv2) 13 (hLine0 (gH M 1))) 3 (0, 0) 3 (-4) = sH (sN (mL (jUp M 3 (0, 0) 4 x) (M 12 (34, 0)) (-4)) 9 nv2) 13 (hLine0 (gH M 1)) := by
    rw [up_sH (by decide) (by decide), up_sN (by decide) (by decide)]
    have e5 := mL_put (M := jUp M 3 (0, 0) 4 x) (M 12 (34, 0)) (M 3 (0, 0) 3) (-4)
    rw [← e5]
    have e6 := mL_self (M := jUp M 3 (0, 0) 4 x)
    rw [jUp_k (by decide), jUp_s (by decide)] at e6
    rw [e6]
  rw [s34_0, s34_1, s34_2, s34_5, if_pos hx]
  simp only [s34_9, s34_10, s34_11, s34_14, s34_15, s34_16, s34_19, s34_20, s34_21, s34_24, s34_25, s34_28, s34_29, s34_32, s34_35, s34_38, s34_39, s34_41, s34_44, s34_45, s34_47, s34_48, hi, c9 (show (1 : Nat) ≠ 13 by decide), c66, jcall_eq, Option.toList_some, Option.toList_none, List.cons_append, List.nil_append, jl_0, jl_1, jl_2, jl_3, jl_4, jl_5, jl_6, jl_7, jl_8, jl_9, jl_16, jl_17, jl_18, jl_19, jl_20, sH_sH, sH_c9, gH_other (show (1 : Nat) ≠ 13 by decide), gH_sN, eg]
  rw [show nset (gH M 1) 9 jn = hLine0 (gH M 1) from rfl, e4]
  exact e
end JLN
