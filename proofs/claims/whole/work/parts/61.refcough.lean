/-! the reference: coughs -/
def mW1 (h : jH) (set x : Int32) (s : Nat) (w : Int32) : Int32 := w * (if mCan h s then (if bit set s then x else 10 - x) else (if bit set s then 0 else 1))
def mW (h : jH) (b : Nat) (set x : Int32) : Int32 := jfor (mW1 h set x) b 0 1
section JRK
variable {d n K a b l f : Nat} {v : Option jV} {σ' : jS} {M M' : jM} {x y z : Int32} {h g nv : jH} {c : Nat → Int32}
theorem cCan_eq (w : hOk K a b l h) {s : Nat} (hs : s < b) : cCan h (jn s) ↔ mCan h s := by
  have w1 := w.1
  obtain ⟨κ, _, hκ, eκ⟩ := w.2.2.2.2.2.1 s hs
  unfold cCan mCan
  rw [rg_in (by omega) (by omega), eκ]
  rcases (show κ = 0 ∨ κ = 1 ∨ κ = 2 ∨ κ = 3 by omega) with rfl | rfl | rfl | rfl
  · exact ⟨fun _ => Or.inl rfl, fun _ => by decide⟩
  · exact ⟨fun z => absurd rfl z.1, fun z => by rcases z with z | z <;> exact absurd z (by decide)⟩
  · exact ⟨fun _ => Or.inr rfl, fun _ => by decide⟩
  · exact ⟨fun z => absurd rfl z.2, fun z => by rcases z with z | z <;> exact absurd z (by decide)⟩
theorem mW_zero {set : Int32} : ∀ (m k : Nat), jfor (mW1 h set x) m k 0 = 0
  | 0, _ => rfl
  | m + 1, k => by
    rw [jfor]
    unfold mW1
    rw [Int32.zero_mul]
    exact mW_zero m (k + 1)
theorem weight_eq (w : hOk K a b l h) {set : Int32} : ∀ (m k : Nat) (t : Int32), k + m = b → wRun h set x m k t = jfor (mW1 h set x) m k t
  | 0, _, _, _ => rfl
  | m + 1, k, t, hk => by
    rw [wRun, jfor]
    have e := cCan_eq w (show k < b by omega)
    by_cases c1 : cCan h (jn k)
    · rw [if_pos c1, weight_eq w m (k + 1) _ (by omega)]
      congr 1
      unfold mW1
      rw [if_pos (e.mp c1)]
      by_cases c2 : set >>> (jn k &&& 31) &&& 1 = 0
      · rw [if_pos c2, if_neg (fun z => z c2)]
      · rw [if_neg c2, if_pos c2]
    · rw [if_neg c1]
      unfold mW1
      rw [if_neg (fun z => c1 (e.mpr z))]
      by_cases c2 : set >>> (jn k &&& 31) &&& 1 = 0
      · rw [if_pos c2, if_neg (fun z => z c2), Int32.mul_one, weight_eq w m (k + 1) _ (by omega)]
        rfl
      · rw [if_neg c2, if_pos c2, Int32.mul_zero]
        exact (mW_zero m (k + 1)).symm
theorem weight_pos {set : Int32} {X : Nat} (hX : X ≤ 10) : ∃ q, q ≤ 10 ^ b ∧ mW h b set (jn X) = jn q := by
  have a1 := jfor_two (R := fun k (t : Int32) (_ : Unit) => ∃ q, q ≤ 10 ^ k ∧ t = jn q) (f := mW1 h set (jn X)) (f' := fun _ u => u) b 0 1 () (fun j t _ _ _ z => by
    obtain ⟨q, q1, q2⟩ := z
    have key : ∃ u, u ≤ 10 ∧ (if mCan h j then (if bit set j then jn X else 10 - jn X) else (if bit set j then 0 else 1)) = jn u := by
      by_cases c1 : mCan h j
      · rw [if_pos c1]
        by_cases c2 : bit set j
        · rw [if_pos c2]; exact ⟨X, hX, rfl⟩
        · rw [if_neg c2]; exact ⟨10 - X, by omega, jn_sub (a := 10) hX⟩
      · rw [if_neg c1]
        by_cases c2 : bit set j
        · rw [if_pos c2]; exact ⟨0, by omega, rfl⟩
        · rw [if_neg c2]; exact ⟨1, by omega, rfl⟩
    obtain ⟨u, u1, u2⟩ := key
    refine ⟨q * u, ?_, ?_⟩
    · rw [Nat.pow_succ]
      exact Nat.mul_le_mul q1 u1
    · unfold mW1
      rw [u2, q2, jn_mul]) ⟨1, by omega, rfl⟩
  rw [Nat.zero_add] at a1
  exact a1
theorem jUp_self {M : jM} {k : Nat} {a : jA} {s : Nat} : jUp M k a s (M k a s) = M := by
  funext k' a' s'
  unfold jUp
  by_cases e : k' = k ∧ a' = a ∧ s' = s
  · rw [if_pos e, e.1, e.2.1, e.2.2]
  · rw [if_neg e]
theorem rO_up (w : rO K a b l 55 M h) : rO K a b l 55 (sG (jUp M 11 (0, 0) 25 x) g) h := by
  refine rO_sG g ⟨w.1, ?_, ?_, w.2.2.2⟩
  · unfold rS
    rw [jUp_k (by decide)]
    exact w.2.1
  · rw [jUp_k (by decide)]
    exact w.2.2.1
theorem up_sG {k s : Nat} {a : jA} (h1 : k ≠ 12) (h2 : k ≠ 13) : jUp (sG M g) k a s x = sG (jUp M k a s x) g := by
  funext k' a' s'
  unfold jUp sG
  by_cases e : k' = k ∧ a' = a ∧ s' = s
  · rw [if_pos e, if_neg (by omega), if_neg (by omega), if_neg (by omega), if_neg (by omega)]
    exact (if_pos e).symm
  · rw [if_neg e]
    simp only [if_neg e]
theorem m189_way (w : rO K a b l 55 M h) {z : Int32} {a3 a4 : Option jV} {set : Int32} : ∀ (m k : Nat) (t : Int32) (a8 : Option jV), k + m = b → ∃ a8', ∀ (v : Option jV) (σ' : jS), jE (d + 20) 189 48 [some (.inr (.inr (some (11, (0, 0))))), some (.inl x), some (.inl y), a3, a4, some (.inl set), some (.inl t), some (.inl (jn k)), a8] [] (n, ([], sG (jUp M 11 (0, 0) 25 z) g)) v σ' ↔ jE (d + 20) 189 127 [some (.inr (.inr (some (11, (0, 0))))), some (.inl x), some (.inl y), a3, a4, some (.inl set), some (.inl (jfor (mW1 h set x) m k t)), some (.inl (jn b)), a8'] [] (n, ([], sG (jUp M 11 (0, 0) 25 z) g)) v σ' := by
  have w1 := w.1.1
  have w' := rO_up (x := z) (g := g) w
  intro m
  induction m with
  | zero =>
    intro k t a8 hk
    refine ⟨a8, fun v σ' => ?_⟩
    simp only [s189_48, s189_50, s189_51, s189_54, s189_55, s189_56, jm_46, jk0, ji0 (show 0 < 2 by decide), w'.2.1.1.2]
    rw [if_pos ((jn_le (by omega) (by omega)).mpr (by omega)), show k = b by omega]
    rfl
  | succ m ih =>
    intro k t a8 hk
    obtain ⟨a8', e⟩ := ih (k + 1) (mW1 h set x k t) (some (.inl (jb (bit set k)))) (by omega)
    refine ⟨a8', fun v σ' => ?_⟩
    rw [jfor]
    have one : jE (d + 20) 189 48 [some (.inr (.inr (some (11, (0, 0))))), some (.inl x), some (.inl y), a3, a4, some (.inl set), some (.inl t), some (.inl (jn k)), a8] [] (n, ([], sG (jUp M 11 (0, 0) 25 z) g)) v σ' ↔ jE (d + 20) 189 124 [some (.inr (.inr (some (11, (0, 0))))), some (.inl x), some (.inl y), a3, a4, some (.inl set), some (.inl (mW1 h set x k t)), some (.inl (jn k + 1)), some (.inl (jb (bit set k)))] [] (n, ([], sG (jUp M 11 (0, 0) 25 z) g)) v σ' := by
      simp only [s189_48, s189_50, s189_51, s189_54, s189_55, s189_56, jm_46, jk0, ji0 (show 0 < 2 by decide), w'.2.1.1.2]
      rw [if_neg (fun z => absurd ((jn_le (by omega) (by omega)).mp z) (by omega))]
      simp only [s189_59, s189_61, s189_63, s189_64, s189_65, s189_66, s189_67, s189_70, s189_71, s189_74, s189_75, s189_77, s189_79, s189_80, s189_81, s189_84, s189_86, s189_89, s189_92, s189_94, s189_97, s189_98, s189_101, s189_103, s189_104, s189_105, s189_108, s189_110, s189_113, s189_114, s189_117, s189_118, s189_119, s189_121, r152 w' (show k < b by omega), jcall_eq, Option.toList_some, Option.toList_none, List.cons_append, List.nil_append, jb_0, jifN]
      unfold mW1
      by_cases c2 : set >>> (jn k &&& 31) &&& 1 = 1
      · have c3 : bit set k := (and1' _).mp c2
        rw [if_pos c2, jb_t c3]
        by_cases c1 : mCan h k
        · rw [if_pos c1, if_pos c1, if_pos c3, if_neg (by decide)]
        · rw [if_neg c1, if_neg c1, if_pos c3, if_neg (by decide)]
      · have c3 : ¬ bit set k := fun z => c2 ((and1' _).mpr z)
        rw [if_neg c2, jb_f c3]
        by_cases c1 : mCan h k
        · rw [if_pos c1, if_pos c1, if_neg c3, if_pos trivial]
        · rw [if_neg c1, if_neg c1, if_neg c3, if_pos trivial]
    rw [one, s189_124, jn_1]
    exact e v σ'
theorem m189_sets (w : rO K a b l 55 M h) (hK : K ≤ 1000000) {X : Nat} (hX : X ≤ 10) {a4 : Option jV} : ∀ (m k : Nat) (u z : Int32) (g : jH) (a6 a7 a8 : Option jV), k + m = 2 ^ b → ∃ z' g' a5' a6' a7' a8', ∀ (v : Option jV) (σ' : jS), jE (d + 20) 189 29 [some (.inr (.inr (some (11, (0, 0))))), some (.inl (jn X)), some (.inl y), some (.inl u), a4, some (.inl (jn k)), a6, a7, a8] [] (n, ([], sG (jUp M 11 (0, 0) 25 z) g)) v σ' ↔ jE (d + 20) 189 164 [some (.inr (.inr (some (11, (0, 0))))), some (.inl (jn X)), some (.inl y), some (.inl (jfor (cgStep h (jn X)) m k u)), a4, a5', a6', a7', a8'] [] (n, ([], sG (jUp M 11 (0, 0) 25 z') g')) v σ' := by
  have w1 := w.1.1
  obtain ⟨-, hpow⟩ := hSets_eq w.1
  have hp128 : 2 ^ b ≤ 128 := by
    have e2 : ∀ b : Fin 8, 2 ^ b.1 ≤ 128 := by decide +kernel
    exact e2 ⟨b, by omega⟩
  have hp10 : 10 ^ b ≤ 10000000 := by
    have e2 : ∀ b : Fin 8, 10 ^ b.1 ≤ 10000000 := by decide +kernel
    exact e2 ⟨b, by omega⟩
  intro m
  induction m with
  | zero =>
    intro k u z g a6 a7 a8 hk
    have w' := rO_up (x := z) (g := g) w
    refine ⟨z, g, some (.inl (jn k)), a6, a7, a8, fun v σ' => ?_⟩
    simp only [s189_29, s189_31, s189_32, s189_33, s189_36, s189_37, s189_38, s189_39, jm_46, jk0, ji0 (show 0 < 2 by decide), w'.2.1.1.2, hpow]
    rw [if_pos ((jn_le (by omega) (by omega)).mpr (by omega))]
    rfl
  | succ m ih =>
    intro k u z g a6 a7 a8 hk
    have w' := rO_up (x := z) (g := g) w
    obtain ⟨a8', ew⟩ := m189_way (d := d) (n := n) (x := jn X) (y := y) (g := g) (z := z) (a3 := some (.inl u)) (a4 := a4) (set := jn k) w b 0 1 a8 (by omega)
    obtain ⟨q, q1, q2⟩ := weight_pos (b := b) (h := h) (set := jn k) hX
    have eW : cWeight h (jn k) (jn X) = mW h b (jn k) (jn X) := by
      unfold cWeight
      rw [hOk_S w.1]
      exact weight_eq w.1 b 0 1 (by omega)
    have w2 := rO_up (x := jn k) (g := g) w
    obtain ⟨g1, _, ed⟩ := r155 (d := d + 15) (n := n) (y := jn k) w2 hK (by rw [sG_k _ _ (by decide) (by decide), jUp_at])
    -- one set
    have one : ∃ g2, ∀ (v : Option jV) (σ' : jS), jE (d + 20) 189 29 [some (.inr (.inr (some (11, (0, 0))))), some (.inl (jn X)), some (.inl y), some (.inl u), a4, some (.inl (jn k)), a6, a7, a8] [] (n, ([], sG (jUp M 11 (0, 0) 25 z) g)) v σ' ↔ jE (d + 20) 189 161 [some (.inr (.inr (some (11, (0, 0))))), some (.inl (jn X)), some (.inl y), some (.inl (cgStep h (jn X) k u)), a4, some (.inl (jn k + 1)), some (.inl (jn q)), some (.inl (jn b)), a8'] [] (n, ([], sG (jUp M 11 (0, 0) 25 (jn k)) g2)) v σ' := by
      have head : ∀ (v : Option jV) (σ' : jS), jE (d + 20) 189 29 [some (.inr (.inr (some (11, (0, 0))))), some (.inl (jn X)), some (.inl y), some (.inl u), a4, some (.inl (jn k)), a6, a7, a8] [] (n, ([], sG (jUp M 11 (0, 0) 25 z) g)) v σ' ↔ jE (d + 20) 189 127 [some (.inr (.inr (some (11, (0, 0))))), some (.inl (jn X)), some (.inl y), some (.inl u), a4, some (.inl (jn k)), some (.inl (jn q)), some (.inl (jn b)), a8'] [] (n, ([], sG (jUp M 11 (0, 0) 25 z) g)) v σ' := by
        intro v σ'
        simp only [s189_29, s189_31, s189_32, s189_33, s189_36, s189_37, s189_38, s189_39, jm_46, jk0, ji0 (show 0 < 2 by decide), w'.2.1.1.2, hpow]
        rw [if_neg (fun z => absurd ((jn_le (by omega) (by omega)).mp z) (by omega)), s189_42, s189_43, s189_45, s189_46]
        refine (ew v σ').trans ?_
        rw [show jfor (mW1 h (jn k) (jn X)) b 0 1 = jn q from q2]
      unfold cgStep
      rw [eW, q2]
      by_cases c0 : q = 0
      · refine ⟨g, fun v σ' => ?_⟩
        rw [head, if_pos (show jn q = 0 by rw [c0]; rfl)]
        simp only [s189_127, s189_128, s189_130, s189_133, s189_134, s189_136, s189_155, s189_156, s189_157, s189_158, up_sG (show (11 : Nat) ≠ 12 by decide) (show (11 : Nat) ≠ 13 by decide), jUp_up, Int32.add_zero]
        rw [if_pos (show jn q ≤ 0 by rw [c0]; decide)]
      · refine ⟨g1, fun v σ' => ?_⟩
        rw [head, if_neg (show ¬ jn q = 0 from fun z => c0 (jn_inj (a := q) (b := 0) (by omega) (by omega) z))]
        simp only [s189_127, s189_128, s189_130, s189_133, s189_134, s189_136, s189_139, s189_140, s189_141, s189_144, s189_147, s189_150, s189_152, s189_155, s189_156, s189_157, s189_158, up_sG (show (11 : Nat) ≠ 12 by decide) (show (11 : Nat) ≠ 13 by decide), jUp_up, Int32.add_zero, ed, sG_sG, jcall_eq, Option.toList_some, Option.toList_none, List.cons_append, List.nil_append, jb_0, jifN]
        rw [if_neg (show ¬ jn q ≤ 0 from fun z => by have := (jn_le (k := q) (l := 0) (by omega) (by omega)).mp z; omega)]
        by_cases c1 : nCarry h (nUnfold h (jn k))
        · rw [if_pos c1, if_pos c1]
        · rw [if_neg c1, if_neg c1]
    obtain ⟨g2, one⟩ := one
    obtain ⟨z', g', a5', a6', a7', a8'', e⟩ := ih (k + 1) (cgStep h (jn X) k u) (jn k) g2 (some (.inl (jn q))) (some (.inl (jn b))) a8' (by omega)
    refine ⟨z', g', a5', a6', a7', a8'', fun v σ' => ?_⟩
    rw [jfor, one, s189_161, jn_1]
    exact e v σ'
theorem m189_below (w : rO K a b l 55 M h) {z : Int32} {a3 a6 a7 a8 : Option jV} : ∀ (m k : Nat) (t : Int32), k + m = b → (jE (d + 20) 189 172 [some (.inr (.inr (some (11, (0, 0))))), some (.inl x), some (.inl y), a3, some (.inl t), some (.inl (jn k)), a6, a7, a8] [] (n, ([], sG (jUp M 11 (0, 0) 25 z) g)) v σ' ↔ jE (d + 20) 189 213 [some (.inr (.inr (some (11, (0, 0))))), some (.inl x), some (.inl y), a3, some (.inl (jfor (fun k b => if cCan h (jn k) then b * 10 else b) m k t)), some (.inl (jn b)), a6, a7, a8] [] (n, ([], sG (jUp M 11 (0, 0) 25 z) g)) v σ') := by
  have w1 := w.1.1
  have w' := rO_up (x := z) (g := g) w
  intro m
  induction m with
  | zero =>
    intro k t hk
    simp only [s189_172, s189_174, s189_175, s189_178, s189_179, s189_180, jm_46, jk0, ji0 (show 0 < 2 by decide), w'.2.1.1.2]
    rw [if_pos ((jn_le (by omega) (by omega)).mpr (by omega)), show k = b by omega]
    rfl
  | succ m ih =>
    intro k t hk
    rw [jfor]
    have e := cCan_eq w.1 (show k < b by omega)
    have one : jE (d + 20) 189 172 [some (.inr (.inr (some (11, (0, 0))))), some (.inl x), some (.inl y), a3, some (.inl t), some (.inl (jn k)), a6, a7, a8] [] (n, ([], sG (jUp M 11 (0, 0) 25 z) g)) v σ' ↔ jE (d + 20) 189 210 [some (.inr (.inr (some (11, (0, 0))))), some (.inl x), some (.inl y), a3, some (.inl (if cCan h (jn k) then t * 10 else t)), some (.inl (jn k + 1)), a6, a7, a8] [] (n, ([], sG (jUp M 11 (0, 0) 25 z) g)) v σ' := by
      simp only [s189_172, s189_174, s189_175, s189_178, s189_179, s189_180, jm_46, jk0, ji0 (show 0 < 2 by decide), w'.2.1.1.2]
      rw [if_neg (fun z => absurd ((jn_le (by omega) (by omega)).mp z) (by omega))]
      simp only [s189_183, s189_185, s189_186, s189_187, s189_190, s189_192, s189_195, s189_198, s189_200, s189_203, s189_204, s189_205, s189_207, r152 w' (show k < b by omega), jcall_eq, Option.toList_some, Option.toList_none, List.cons_append, List.nil_append, jb_0, jifN]
      by_cases c1 : mCan h k
      · rw [if_pos c1, if_pos (e.mpr c1)]
      · rw [if_neg c1, if_neg (fun z => c1 (e.mp z)), Int32.mul_one]
    rw [one, s189_210, jn_1]
    exact ih (k + 1) _ (by omega)
theorem m189_gcd {a3 a4 : Option jV} {σ : jS} : ∀ (β α : Nat) (a7 a8 : Option jV), α < 2147483648 → β < 2147483648 → ∃ a6' a7', ∀ (v : Option jV) (σ' : jS), jE (d + 20) 189 220 [some (.inr (.inr (some (11, (0, 0))))), some (.inl x), some (.inl y), a3, a4, some (.inl (jn α)), some (.inl (jn β)), a7, a8] [] σ v σ' ↔ jE (d + 20) 189 243 [some (.inr (.inr (some (11, (0, 0))))), some (.inl x), some (.inl y), a3, a4, some (.inl (jn (Nat.gcd α β))), a6', a7', a8] [] σ v σ' := by
  intro β
  induction β using Nat.strongRecOn with
  | ind β ih =>
    intro α a7 a8 hα hβ
    by_cases c0 : β = 0
    · subst c0
      refine ⟨some (.inl (jn 0)), a7, fun v σ' => ?_⟩
      rw [s189_220, s189_222, if_pos (show jn 0 = 0 from rfl), Nat.gcd_zero_right]
    · have hlt : α % β < β := Nat.mod_lt _ (by omega)
      obtain ⟨a6', a7', e⟩ := ih (α % β) hlt β (some (.inl (jn (α % β)))) a8 hβ (by omega)
      refine ⟨a6', a7', fun v σ' => ?_⟩
      have c1 : ¬ jn β = 0 := fun z => c0 (jn_inj (a := β) (b := 0) (by omega) (by omega) z)
      rw [s189_220, s189_222, if_neg c1]
      simp only [s189_225, s189_227, s189_229, s189_230, s189_232, s189_234, s189_236, s189_238, c1, not_false_eq_true, true_and, jn_mod hα hβ]
      rw [s189_240, e v σ', Nat.gcd_comm α β, Nat.gcd_rec β α, Nat.gcd_comm (α % β) β]
theorem gcdRun_eq : ∀ (m f α β : Nat), β < 2 ^ m → 2 * m + 1 ≤ f → α < 2147483648 → β < 2147483648 → gcdRun f (jn α) (jn β) = jn (Nat.gcd α β) := by
  intro m
  induction m with
  | zero =>
    intro f α β hβ hf hα hβ2
    have : β = 0 := by omega
    subst this
    obtain ⟨f, rfl⟩ : ∃ f', f = f' + 1 := ⟨f - 1, by omega⟩
    rw [gcdRun, if_pos (show jn 0 = 0 from rfl), Nat.gcd_zero_right]
  | succ m ih =>
    intro f α β hβ hf hα hβ2
    obtain ⟨f, rfl⟩ : ∃ f', f = f' + 2 := ⟨f - 2, by omega⟩
    by_cases c0 : β = 0
    · subst c0
      rw [gcdRun, if_pos (show jn 0 = 0 from rfl), Nat.gcd_zero_right]
    · have hlt : α % β < β := Nat.mod_lt _ (by omega)
      have e1 : Nat.gcd α β = Nat.gcd β (α % β) := by rw [Nat.gcd_comm α β, Nat.gcd_rec β α, Nat.gcd_comm]
      rw [gcdRun, if_neg (show ¬ jn β = 0 from fun z => c0 (jn_inj (a := β) (b := 0) (by omega) (by omega) z)), jn_mod hα hβ2, gcdRun, e1]
      by_cases c1 : α % β = 0
      · rw [c1, if_pos (show jn 0 = 0 from rfl), Nat.gcd_zero_right]
      · rw [if_neg (show ¬ jn (α % β) = 0 from fun z => c1 (jn_inj (a := α % β) (b := 0) (by omega) (by omega) z)), jn_mod hβ2 (by omega)]
        have h2 : β % (α % β) < α % β := Nat.mod_lt _ (by omega)
        have h3 : α % β + β % (α % β) ≤ β := by
          have := Nat.mod_add_div β (α % β)
          have h4 : 1 ≤ β / (α % β) := Nat.div_pos (by omega) (by omega)
          have h5 : (α % β) * 1 ≤ (α % β) * (β / (α % β)) := Nat.mul_le_mul_left _ h4
          omega
        have e2 : Nat.gcd β (α % β) = Nat.gcd (α % β) (β % (α % β)) := by rw [Nat.gcd_comm β, Nat.gcd_rec (α % β) β, Nat.gcd_comm]
        rw [e2]
        refine ih f _ _ ?_ (by omega) (by omega) (by omega)
        rw [Nat.pow_succ] at hβ
        omega
end JRK
