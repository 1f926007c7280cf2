/-! small numbers; rows of cells -/
abbrev jn (k : Nat) : Int32 := Int32.ofNat k
theorem jn_int {k : Nat} (h : k < 2147483648) : (jn k).toInt = (k : Int) := Int32.toInt_ofNat_of_lt (by omega)
theorem jn_lt {k l : Nat} (hk : k < 2147483648) (hl : l < 2147483648) : jn k < jn l ↔ k < l := by
  rw [Int32.lt_iff_toInt_lt, jn_int hk, jn_int hl]; omega
theorem jn_le {k l : Nat} (hk : k < 2147483648) (hl : l < 2147483648) : jn k ≤ jn l ↔ k ≤ l := by
  rw [Int32.le_iff_toInt_le, jn_int hk, jn_int hl]; omega
theorem jn_eq {k l : Nat} (hk : k < 2147483648) (hl : l < 2147483648) : jn k = jn l ↔ k = l := by
  rw [← Int32.toInt_inj, jn_int hk, jn_int hl]; omega
theorem jn_1 (k : Nat) : jn k + 1 = jn (k + 1) := (Int32.ofNat_succ k).symm ▸ rfl
theorem jn_clamp {k : Nat} (h : k < 2147483648) : (jn k).toNatClampNeg = k := by
  show ((jn k).toInt).toNat = k
  rw [jn_int h]; omega
theorem jn_pos {k : Nat} (h : k < 2147483648) : 0 ≤ jn k := by
  rw [Int32.le_iff_toInt_le, jn_int h]; simp
theorem jn_npos {k : Nat} (h : k < 2147483648) : ¬ jn k < 0 := by
  rw [Int32.lt_iff_toInt_lt, jn_int h]; simp
theorem jx_lt (x : Int32) : x.toNatClampNeg < 2147483648 := by
  show (x.toInt).toNat < 2147483648
  have := Int32.toInt_lt x
  omega
theorem jx_of {x : Int32} (h : 0 ≤ x) : jn x.toNatClampNeg = x := by
  apply Int32.toInt_inj.mp
  rw [jn_int (jx_lt x)]
  show ((x.toInt).toNat : Int) = x.toInt
  rw [Int32.le_iff_toInt_le] at h
  simp at h
  omega
/-- a counter from 0 against any bound -/
theorem jn_ge {k : Nat} {y : Int32} (hk : k < 2147483648) : y ≤ jn k ↔ y.toNatClampNeg ≤ k := by
  rw [Int32.le_iff_toInt_le, jn_int hk]
  show _ ↔ (y.toInt).toNat ≤ k
  omega
theorem jn_slt {k : Nat} {y : Int32} (hk : k < 2147483648) : jn k < y ↔ k < y.toNatClampNeg := by
  rw [Int32.lt_iff_toInt_lt, jn_int hk]
  show _ ↔ k < (y.toInt).toNat
  omega
theorem jLen_le (a : jA) : jLen 12 a ≤ 1000 := by
  show (if a.1 < 30 then 7 else jLenT.getD (a.1 - 30) 0) ≤ 1000
  split
  · omega
  · have h0 : (jLenT.all fun k => Nat.ble k 1000) = true := by decide +kernel
    rw [List.getD_eq_getElem?_getD]
    cases hq : jLenT[a.1 - 30]? with
    | none => simp
    | some k => exact Nat.le_of_ble_eq_true (List.all_eq_true.mp h0 k (List.mem_of_getElem? hq))
/-- a row of L cells read at x: outside it reads 0 -/
def rg (L : Nat) (c : Nat → Int32) (x : Int32) : Int32 := if x < 0 then 0 else if jn L ≤ x then 0 else c x.toNatClampNeg
def rs (L : Nat) (c : Nat → Int32) (x y : Int32) : Nat → Int32 := if x < 0 then c else if jn L ≤ x then c else upd c x.toNatClampNeg y
theorem rg_in {L k : Nat} {c : Nat → Int32} (hL : L ≤ 1000) (h : k < L) : rg L c (jn k) = c k := by
  unfold rg
  rw [if_neg (jn_npos (by omega)), if_neg (by rw [jn_le (by omega) (by omega)]; omega), jn_clamp (by omega)]
theorem rg_out {L k : Nat} {c : Nat → Int32} (hL : L ≤ 1000) (hk : k < 2147483648) (h : L ≤ k) : rg L c (jn k) = 0 := by
  unfold rg
  rw [if_neg (jn_npos hk), if_pos (by rw [jn_le (by omega) (by omega)]; omega)]
theorem rg_neg {L : Nat} {c : Nat → Int32} {x : Int32} (h : x < 0) : rg L c x = 0 := if_pos h
theorem rs_in {L k : Nat} {c : Nat → Int32} {y : Int32} (hL : L ≤ 1000) (h : k < L) : rs L c (jn k) y = upd c k y := by
  unfold rs
  rw [if_neg (jn_npos (by omega)), if_neg (by rw [jn_le (by omega) (by omega)]; omega), jn_clamp (by omega)]
theorem rs_out {L k : Nat} {c : Nat → Int32} {y : Int32} (hL : L ≤ 1000) (hk : k < 2147483648) (h : L ≤ k) : rs L c (jn k) y = c := by
  unfold rs
  rw [if_neg (jn_npos hk), if_pos (by rw [jn_le (by omega) (by omega)]; omega)]
/-- the memory with other cells in one array of numbers -/
def mC (M : jM) (a : jA) (c : Nat → Int32) : jM := fun k b s => if k = 12 ∧ b = a then c s else M k b s
theorem mC_self (M : jM) (a : jA) : mC M a (M 12 a) = M := by
  funext k b s
  unfold mC
  by_cases h : k = 12 ∧ b = a
  · rw [if_pos h, h.1, h.2]
  · rw [if_neg h]
theorem mC_up (M : jM) (a : jA) (i : Nat) (x : Int32) : jUp M 12 a i x = mC M a (upd (M 12 a) i x) := by
  funext k b s
  unfold jUp mC upd
  by_cases h : k = 12 ∧ b = a
  · obtain ⟨rfl, rfl⟩ := h
    by_cases h2 : s = i <;> simp [h2]
  · rw [if_neg h, if_neg (fun z => h ⟨z.1, z.2.1⟩)]
theorem mC_mC (M : jM) (a : jA) (c c' : Nat → Int32) : mC (mC M a c) a c' = mC M a c' := by
  funext k b s
  unfold mC
  by_cases h : k = 12 ∧ b = a
  · rw [if_pos h, if_pos h]
  · rw [if_neg h, if_neg h, if_neg h]
theorem mC_at (M : jM) (a : jA) (c : Nat → Int32) : mC M a c 12 a = c := by
  funext s
  unfold mC
  rw [if_pos ⟨rfl, rfl⟩]
theorem mC_ne {M : jM} {a b : jA} {c : Nat → Int32} (h : b ≠ a) : mC M a c 12 b = M 12 b := by
  funext s
  unfold mC
  rw [if_neg (fun z => h z.2)]
theorem mC_k {M : jM} {a : jA} {c : Nat → Int32} {k : Nat} (h : k ≠ 12) : mC M a c k = M k := by
  funext b s
  unfold mC
  rw [if_neg (fun z => h z.1)]
section JROW
variable {d n : Nat} {v : Option jV} {σ' : jS} {a b : jA} {M : jM} {x y z : Int32}
/-- Row.at -/
theorem c59 : jE d 59 0 [some (.inr (.inr (some (6, a)))), some (.inl x)] [] (n, ([], M)) v σ' ↔ v = some (.inl (rg (jLen 12 a) (M 12 a) x)) ∧ σ' = (n, ([], M)) := by
  simp only [s59_0, s59_1, s59_4, s59_5, s59_6, s59_9, s59_10, s59_13, s59_14, s59_17, s59_18, s59_19, s59_22, s59_23]
  unfold rg
  by_cases h1 : x < 0
  · rw [if_pos h1, if_pos h1]
  · rw [if_neg h1, if_neg h1]
    by_cases h2 : jn (jLen 12 a) ≤ x
    · rw [if_pos h2, if_pos h2]
    · rw [if_neg h2, if_neg h2]
      have h3 : 0 ≤ x := Int32.not_lt.mp h1
      have h4 : x.toNatClampNeg < jLen 12 a := by
        have hl := jLen_le a
        rw [← jx_of h3, jn_le (by omega) (jx_lt x)] at h2
        omega
      exact ⟨fun h => h.2, fun h => ⟨⟨h3, h4⟩, h⟩⟩
/-- Row.put -/
theorem c60 : jE d 60 0 [some (.inr (.inr (some (6, a)))), some (.inl x), some (.inl y)] [] (n, ([], M)) v σ' ↔ v = none ∧ σ' = (n, ([], mC M a (rs (jLen 12 a) (M 12 a) x y))) := by
  simp only [s60_0, s60_1, s60_4, s60_5, s60_6, s60_9, s60_10, s60_13, s60_14, s60_17, s60_18, s60_19, s60_20]
  unfold rs
  by_cases h1 : x < 0
  · rw [if_pos h1, if_pos h1, mC_self]
  · rw [if_neg h1, if_neg h1]
    by_cases h2 : jn (jLen 12 a) ≤ x
    · rw [if_pos h2, if_pos h2, mC_self]
    · rw [if_neg h2, if_neg h2, mC_up]
      have h3 : 0 ≤ x := Int32.not_lt.mp h1
      have h4 : x.toNatClampNeg < jLen 12 a := by
        have hl := jLen_le a
        rw [← jx_of h3, jn_le (by omega) (jx_lt x)] at h2
        omega
      exact ⟨fun h => h.2, fun h => ⟨⟨h3, h4⟩, h⟩⟩
end JROW
