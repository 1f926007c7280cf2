/-! the rows' loops -/
def rfind (L : Nat) (c : Nat → Int32) (v : Int32) : Nat → Nat → Int32
  | 0, _ => -4
  | f + 1, k => if rg L c (jn k) = v then jn k else rfind L c v f (k + 1)
def rins (c : Nat → Int32) (p l : Nat) (y : Int32) : Nat → Int32 := fun k => if k < p then c k else if k = p then y else if k ≤ l then c (k - 1) else c k
def rrem (c : Nat → Int32) (p l : Nat) : Nat → Int32 := fun k => if p ≤ k ∧ k + 1 < l then c (k + 1) else c k
def rfill (L : Nat) (c f : Nat → Int32) : Nat → Int32 := fun k => if k < L then f k else c k
section JROWS
variable {d n : Nat} {v : Option jV} {σ' : jS} {a b : jA} {M : jM} {x y z : Int32}
theorem c61_loop : ∀ (f k : Nat), k + f = y.toNatClampNeg ∨ (f = 0 ∧ y.toNatClampNeg ≤ k ∧ k < 2147483648) → (jE (d + 1) 61 2 [some (.inr (.inr (some (6, a)))), some (.inl x), some (.inl y), some (.inl (jn k))] [] (n, ([], M)) v σ' ↔ v = some (.inl (rfind (jLen 12 a) (M 12 a) x f k)) ∧ σ' = (n, ([], M))) := by
  intro f
  induction f with
  | zero =>
    intro k hk
    have hy := jx_lt y
    simp only [s61_0, s61_1, s61_2, s61_3, s61_4, s61_7, s61_8, s61_9, s61_12, s61_13, s61_16, s61_17, s61_18, s61_24, s61_26]
    rw [if_pos ((jn_ge (by omega)).mpr (by omega))]
    rfl
  | succ f ih =>
    intro k hk
    have hy := jx_lt y
    simp only [s61_0, s61_1, s61_2, s61_3, s61_4, s61_7, s61_8, s61_9, s61_12, s61_13, s61_16, s61_17, s61_18, s61_24, s61_26, c59, jcall_eq, Option.toList_some, List.cons_append, List.nil_append]
    rw [if_neg (fun z => absurd ((jn_ge (by omega)).mp z) (by omega)), s61_21, jn_1, ih (k + 1) (by omega), rfind]
    by_cases e : rg (jLen 12 a) (M 12 a) (jn k) = x
    · rw [if_pos e, if_neg (fun z => z e)]
    · rw [if_neg e, if_pos e]
/-- Row.placeOf -/
theorem c61 : jE (d + 1) 61 0 [some (.inr (.inr (some (6, a)))), some (.inl x), some (.inl y), none] [] (n, ([], M)) v σ' ↔ v = some (.inl (rfind (jLen 12 a) (M 12 a) x y.toNatClampNeg 0)) ∧ σ' = (n, ([], M)) := by
  rw [s61_0, s61_1]
  exact c61_loop y.toNatClampNeg 0 (by omega)
/-- Row.trade -/
theorem c62 : jE (d + 1) 62 0 [some (.inr (.inr (some (6, a)))), some (.inl x), some (.inl y), none] [] (n, ([], M)) v σ' ↔ v = none ∧ σ' = (n, ([], mC M a (rs (jLen 12 a) (rs (jLen 12 a) (M 12 a) x (rg (jLen 12 a) (M 12 a) y)) y (rg (jLen 12 a) (M 12 a) x)))) := by
  simp only [s62_0, s62_1, s62_2, s62_5, s62_6, s62_7, s62_8, s62_9, s62_10, s62_13, s62_16, s62_17, s62_18, s62_19, s62_22, c59, c60, jcall_eq, Option.toList_some, Option.toList_none, List.cons_append, List.nil_append, mC_at, mC_mC]
theorem c63_loop {p l : Nat} (hl : l < jLen 12 a) (hp : p ≤ l) : ∀ (i : Nat) (c : Nat → Int32), p + i ≤ l → (∀ k, c k = if p + i < k ∧ k ≤ l then M 12 a (k - 1) else M 12 a k) → (jE (d + 1) 63 3 [some (.inr (.inr (some (6, a)))), some (.inl (jn p)), some (.inl y), some (.inl (jn l)), some (.inl (jn (p + i)))] [] (n, ([], mC M a c)) v σ' ↔ v = none ∧ σ' = (n, ([], mC M a (rins (M 12 a) p l y)))) := by
  have hL := jLen_le a
  intro i
  induction i with
  | zero =>
    intro c hi hc
    simp only [s63_0, s63_1, s63_3, s63_5, s63_6, s63_9, s63_10, s63_12, s63_13, s63_15, s63_16, s63_17, s63_20, s63_23, s63_29, s63_30, s63_31, s63_32, s63_35, c59, c60, jcall_eq, Option.toList_some, Option.toList_none, List.cons_append, List.nil_append, mC_at, mC_mC]
    rw [if_pos ((jn_le (by omega) (by omega)).mpr (by omega)), rs_in hL (by omega)]
    have e : upd c p y = rins (M 12 a) p l y := by
      funext k
      unfold upd rins
      by_cases h1 : k = p
      · rw [if_pos h1, if_neg (by omega), if_pos h1]
      · rw [if_neg h1, hc]
        by_cases h2 : k < p
        · rw [if_pos h2, if_neg (by omega)]
        · rw [if_neg h2, if_neg h1]
          by_cases h3 : k ≤ l
          · rw [if_pos h3, if_pos (by omega)]
          · rw [if_neg h3, if_neg (by omega)]
    rw [e]
  | succ i ih =>
    intro c hi hc
    simp only [s63_0, s63_1, s63_3, s63_5, s63_6, s63_9, s63_10, s63_12, s63_13, s63_15, s63_16, s63_17, s63_20, s63_23, s63_29, s63_30, s63_31, s63_32, s63_35, c59, c60, jcall_eq, Option.toList_some, Option.toList_none, List.cons_append, List.nil_append, mC_at, mC_mC]
    have e1 : jn (p + (i + 1)) - 1 = jn (p + i) := by
      rw [← Nat.add_assoc, ← jn_1]
      exact Int32.add_sub_cancel _ _
    have e2 : jn (p + (i + 1)) + (-1) = jn (p + i) := by
      rw [← e1]
      exact (Int32.sub_eq_add_neg _ _).symm
    rw [if_neg (fun z => absurd ((jn_le (by omega) (by omega)).mp z) (by omega)), s63_26, e1, e2, rg_in hL (by omega), rs_in hL (by omega)]
    refine ih _ (by omega) (fun k => ?_)
    unfold upd
    by_cases h1 : k = p + (i + 1)
    · rw [if_pos h1, if_pos (by omega), hc, if_neg (by omega), h1]
      rfl
    · rw [if_neg h1, hc]
      by_cases h2 : p + (i + 1) < k ∧ k ≤ l
      · rw [if_pos h2, if_pos (by omega)]
      · rw [if_neg h2, if_neg (by omega)]
/-- Row.insert -/
theorem c63 {p l : Nat} (hl : l < jLen 12 a) (hp : p ≤ l) : jE (d + 1) 63 0 [some (.inr (.inr (some (6, a)))), some (.inl (jn p)), some (.inl y), some (.inl (jn l)), none] [] (n, ([], M)) v σ' ↔ v = none ∧ σ' = (n, ([], mC M a (rins (M 12 a) p l y))) := by
  rw [s63_0, s63_1]
  have h := c63_loop (d := d) (n := n) (v := v) (σ' := σ') (M := M) (y := y) hl hp (l - p) (M 12 a) (by omega) (fun k => by rw [if_neg (by omega)])
  rw [mC_self, show p + (l - p) = l by omega] at h
  exact h
theorem c64_loop {p l : Nat} (hl : l ≤ jLen 12 a) : ∀ (f i : Nat) (c : Nat → Int32), p ≤ i → i + f + 1 = l → (∀ k, c k = if p ≤ k ∧ k < i then M 12 a (k + 1) else M 12 a k) → (jE (d + 1) 64 2 [some (.inr (.inr (some (6, a)))), some (.inl (jn p)), some (.inl (jn l)), some (.inl (jn i))] [] (n, ([], mC M a c)) v σ' ↔ v = none ∧ σ' = (n, ([], mC M a (rrem (M 12 a) p l)))) := by
  have hL := jLen_le a
  intro f
  induction f with
  | zero =>
    intro i c hp hi hc
    have e1 : jn l - 1 = jn i := by
      rw [← hi, ← jn_1]
      exact Int32.add_sub_cancel _ _
    simp only [s64_0, s64_1, s64_2, s64_3, s64_4, s64_5, s64_6, s64_9, s64_10, s64_11, s64_12, s64_13, s64_14, s64_15, s64_18, s64_21, s64_27, c59, c60, jcall_eq, Option.toList_some, Option.toList_none, List.cons_append, List.nil_append, mC_at, mC_mC]
    rw [e1, if_pos ((jn_le (by omega) (by omega)).mpr (by omega))]
    have e : c = rrem (M 12 a) p l := by
      funext k
      rw [hc]
      unfold rrem
      by_cases h : p ≤ k ∧ k < i
      · rw [if_pos h, if_pos (by omega)]
      · rw [if_neg h, if_neg (by omega)]
    rw [e]
  | succ f ih =>
    intro i c hp hi hc
    have e1 : jn l - 1 = jn (i + f + 1) := by
      rw [← hi, show i + (f + 1) + 1 = (i + f + 1) + 1 by omega, ← jn_1]
      exact Int32.add_sub_cancel _ _
    simp only [s64_0, s64_1, s64_2, s64_3, s64_4, s64_5, s64_6, s64_9, s64_10, s64_11, s64_12, s64_13, s64_14, s64_15, s64_18, s64_21, s64_27, c59, c60, jcall_eq, Option.toList_some, Option.toList_none, List.cons_append, List.nil_append, mC_at, mC_mC]
    rw [e1, if_neg (fun z => absurd ((jn_le (by omega) (by omega)).mp z) (by omega)), s64_24, jn_1, rg_in hL (by omega), rs_in hL (by omega)]
    refine ih (i + 1) _ (by omega) (by omega) (fun k => ?_)
    unfold upd
    by_cases h1 : k = i
    · rw [if_pos h1, if_pos (by omega), hc, if_neg (by omega), h1]
    · rw [if_neg h1, hc]
      by_cases h2 : p ≤ k ∧ k < i
      · rw [if_pos h2, if_pos (by omega)]
      · rw [if_neg h2, if_neg (by omega)]
/-- Row.remove -/
theorem c64 {p l : Nat} (hl : l ≤ jLen 12 a) (hp : p < l) : jE (d + 1) 64 0 [some (.inr (.inr (some (6, a)))), some (.inl (jn p)), some (.inl (jn l)), none] [] (n, ([], M)) v σ' ↔ v = none ∧ σ' = (n, ([], mC M a (rrem (M 12 a) p l))) := by
  rw [s64_0, s64_1]
  have h := c64_loop (d := d) (n := n) (v := v) (σ' := σ') (M := M) (p := p) hl (l - 1 - p) p (M 12 a) (by omega) (by omega) (fun k => by rw [if_neg (by omega)])
  rw [mC_self] at h
  exact h
theorem c196_loop : ∀ (f i : Nat) (c : Nat → Int32), i + f = jLen 12 a → (∀ k, c k = if k < i then x else M 12 a k) → (jE d 196 5 [some (.inr (.inr (some (12, a)))), some (.inl x), some (.inl (jn i)), some (.inl (jn (jLen 12 a)))] [] (n, ([], mC M a c)) v σ' ↔ v = none ∧ σ' = (n, ([], mC M a (rfill (jLen 12 a) (M 12 a) (fun _ => x))))) := by
  have hL := jLen_le a
  intro f
  induction f with
  | zero =>
    intro i c hi hc
    simp only [s196_0, s196_1, s196_2, s196_3, s196_4, s196_5, s196_6, s196_7, s196_10, s196_11, s196_12, s196_13, s196_14, s196_20]
    rw [if_pos ((jn_le (by omega) (by omega)).mpr (by omega))]
    have e : c = rfill (jLen 12 a) (M 12 a) (fun _ => x) := by
      funext k
      rw [hc]
      unfold rfill
      by_cases h : k < i
      · rw [if_pos h, if_pos (by omega)]
      · rw [if_neg h, if_neg (by omega)]
    rw [e]
  | succ f ih =>
    intro i c hi hc
    simp only [s196_0, s196_1, s196_2, s196_3, s196_4, s196_5, s196_6, s196_7, s196_10, s196_11, s196_12, s196_13, s196_14, s196_20]
    rw [if_neg (fun z => absurd ((jn_le (by omega) (by omega)).mp z) (by omega)), s196_17, jn_1, mC_up, mC_at, mC_mC, jn_clamp (by omega)]
    have h := ih (i + 1) (upd c i x) (by omega) (fun k => by
      unfold upd
      by_cases h1 : k = i
      · rw [if_pos h1, if_pos (by omega)]
      · rw [if_neg h1, hc]
        by_cases h2 : k < i
        · rw [if_pos h2, if_pos (by omega)]
        · rw [if_neg h2, if_neg (by omega)])
    rw [h]
    exact ⟨fun h => h.2, fun h => ⟨⟨jn_pos (by omega), by omega⟩, h⟩⟩
theorem c196 : jE d 196 0 [some (.inr (.inr (some (12, a)))), some (.inl x), none, none] [] (n, ([], M)) v σ' ↔ v = none ∧ σ' = (n, ([], mC M a (rfill (jLen 12 a) (M 12 a) (fun _ => x)))) := by
  rw [s196_0, s196_1, s196_2, s196_3, s196_4]
  have h := c196_loop (d := d) (n := n) (v := v) (σ' := σ') (M := M) (a := a) (x := x) (jLen 12 a) 0 (M 12 a) (by omega) (fun k => by rw [if_neg (by omega)])
  rw [mC_self] at h
  exact h
/-- Row.clear -/
theorem c65 : jE (d + 1) 65 0 [some (.inr (.inr (some (6, a))))] [] (n, ([], M)) v σ' ↔ v = none ∧ σ' = (n, ([], mC M a (rfill (jLen 12 a) (M 12 a) (fun _ => 0)))) := by
  simp only [s65_0, s65_1, s65_4, s65_5, s65_8, c196, jcall_eq, Option.toList_none, List.nil_append]
theorem c66_loop : ∀ (f i : Nat) (c : Nat → Int32), i + f = jLen 12 a → (∀ k, c k = if k < i then jn k else M 12 a k) → (jE (d + 1) 66 2 [some (.inr (.inr (some (6, a)))), some (.inl (jn i))] [] (n, ([], mC M a c)) v σ' ↔ v = none ∧ σ' = (n, ([], mC M a (rfill (jLen 12 a) (M 12 a) jn)))) := by
  have hL := jLen_le a
  intro f
  induction f with
  | zero =>
    intro i c hi hc
    simp only [s66_0, s66_1, s66_2, s66_3, s66_4, s66_7, s66_8, s66_11, s66_12, s66_13, s66_14, s66_17, s66_23, c60, jcall_eq, Option.toList_none, List.nil_append, mC_at, mC_mC]
    rw [if_pos ((jn_le (by omega) (by omega)).mpr (by omega))]
    have e : c = rfill (jLen 12 a) (M 12 a) jn := by
      funext k
      rw [hc]
      unfold rfill
      by_cases h : k < i
      · rw [if_pos h, if_pos (by omega)]
      · rw [if_neg h, if_neg (by omega)]
    rw [e]
  | succ f ih =>
    intro i c hi hc
    simp only [s66_0, s66_1, s66_2, s66_3, s66_4, s66_7, s66_8, s66_11, s66_12, s66_13, s66_14, s66_17, s66_23, c60, jcall_eq, Option.toList_none, List.nil_append, mC_at, mC_mC]
    rw [if_neg (fun z => absurd ((jn_le (by omega) (by omega)).mp z) (by omega)), s66_20, jn_1, rs_in hL (by omega)]
    refine ih (i + 1) _ (by omega) (fun k => ?_)
    unfold upd
    by_cases h1 : k = i
    · rw [if_pos h1, if_pos (by omega), h1]
    · rw [if_neg h1, hc]
      by_cases h2 : k < i
      · rw [if_pos h2, if_pos (by omega)]
      · rw [if_neg h2, if_neg (by omega)]
/-- Row.numberThrough -/
theorem c66 : jE (d + 1) 66 0 [some (.inr (.inr (some (6, a)))), none] [] (n, ([], M)) v σ' ↔ v = none ∧ σ' = (n, ([], mC M a (rfill (jLen 12 a) (M 12 a) jn))) := by
  rw [s66_0, s66_1]
  have h := c66_loop (d := d) (n := n) (v := v) (σ' := σ') (M := M) (a := a) (jLen 12 a) 0 (M 12 a) (by omega) (fun k => by rw [if_neg (by omega)])
  rw [mC_self] at h
  exact h
theorem jCp_all {L : Nat} : jCp M b a 0 0 L = mC M a (rfill L (M 12 a) (M 12 b)) := by
  funext k c s
  unfold jCp mC rfill va_cpy
  by_cases h : k = 12 ∧ c = a
  · rw [if_pos h, if_pos h]
    by_cases h2 : s < L
    · rw [if_pos h2, if_pos ⟨Nat.zero_le _, by omega⟩]
      congr 1
      omega
    · rw [if_neg h2, if_neg (by omega)]
  · rw [if_neg h, if_neg h]
/-- Row.copy -/
theorem c67 (h : jLen 12 b = jLen 12 a) : jE d 67 0 [some (.inr (.inr (some (6, a)))), some (.inr (.inr (some (6, b))))] [] (n, ([], M)) v σ' ↔ v = none ∧ σ' = (n, ([], mC M a (rfill (jLen 12 a) (M 12 a) (M 12 b)))) := by
  have hL := jLen_le a
  simp only [s67_0, s67_1, s67_4, s67_5, s67_6, s67_9, s67_10, s67_11, s67_14, s67_15, s67_16, s67_19, s67_20, s67_23, s67_26, h, Int32.lt_irrefl, if_false, jn_clamp (show jLen 12 a < 2147483648 by omega)]
  rw [show (0 : Int32).toNatClampNeg = 0 from rfl, jCp_all]
  exact ⟨fun z => z.2, fun z => ⟨⟨by decide, by decide, jn_pos (by omega), by omega, by omega⟩, z⟩⟩
end JROWS
