/-! the reference: small methods over its cells -/
theorem jiz {k L : Nat} {P : Prop} (h1 : k < L) (h2 : k < 1000) : ((0 ≤ jn k ∧ k < L) ∧ P) ↔ P := by
  exact ⟨fun z => z.2, fun z => ⟨⟨jn_pos (by omega), h1⟩, z⟩⟩
theorem jcl {k : Nat} (h : k < 1000) : (jn k).toNatClampNeg = k := jn_clamp (by omega)
theorem jn_add (a b : Nat) : jn a + jn b = jn (a + b) := (Int32.ofNat_add a b).symm
theorem jnA0 (k : Nat) : (0 : Int32) + jn k = jn k := Int32.zero_add _
theorem jnA7 (k : Nat) : (7 : Int32) + jn k = jn (7 + k) := jn_add 7 k
theorem jnA11 (k : Nat) : (11 : Int32) + jn k = jn (11 + k) := jn_add 11 k
theorem jnA18 (k : Nat) : (18 : Int32) + jn k = jn (18 + k) := jn_add 18 k
theorem jnA25 (k : Nat) : (25 : Int32) + jn k = jn (25 + k) := jn_add 25 k
theorem jnA32 (k : Nat) : (32 : Int32) + jn k = jn (32 + k) := jn_add 32 k
theorem ji0 {L : Nat} {P : Prop} (h : 0 < L) : ((0 ≤ (0 : Int32) ∧ 0 < L) ∧ P) ↔ P := ⟨fun z => z.2, fun z => ⟨⟨by decide, h⟩, z⟩⟩
theorem ji1 {L : Nat} {P : Prop} (h : 1 < L) : ((0 ≤ (1 : Int32) ∧ 1 < L) ∧ P) ↔ P := ⟨fun z => z.2, fun z => ⟨⟨by decide, h⟩, z⟩⟩
theorem ji7 {L : Nat} {P : Prop} (h : 7 < L) : ((0 ≤ (7 : Int32) ∧ 7 < L) ∧ P) ↔ P := ⟨fun z => z.2, fun z => ⟨⟨by decide, h⟩, z⟩⟩
theorem ji8 {L : Nat} {P : Prop} (h : 8 < L) : ((0 ≤ (8 : Int32) ∧ 8 < L) ∧ P) ↔ P := ⟨fun z => z.2, fun z => ⟨⟨by decide, h⟩, z⟩⟩
theorem ji9 {L : Nat} {P : Prop} (h : 9 < L) : ((0 ≤ (9 : Int32) ∧ 9 < L) ∧ P) ↔ P := ⟨fun z => z.2, fun z => ⟨⟨by decide, h⟩, z⟩⟩
theorem ji10 {L : Nat} {P : Prop} (h : 10 < L) : ((0 ≤ (10 : Int32) ∧ 10 < L) ∧ P) ↔ P := ⟨fun z => z.2, fun z => ⟨⟨by decide, h⟩, z⟩⟩
theorem jk0 : (0 : Int32).toNatClampNeg = 0 := rfl
theorem jk1 : (1 : Int32).toNatClampNeg = 1 := rfl
theorem jk7 : (7 : Int32).toNatClampNeg = 7 := rfl
theorem jk8 : (8 : Int32).toNatClampNeg = 8 := rfl
theorem jk9 : (9 : Int32).toNatClampNeg = 9 := rfl
theorem jk10 : (10 : Int32).toNatClampNeg = 10 := rfl
theorem jm_42 : jLen 12 (42, 0) = 2 := rfl
theorem jm_43 : jLen 12 (43, 0) = 14 := rfl
theorem jm_44 : jLen 12 (44, 0) = 14 := rfl
theorem jm_45 : jLen 12 (45, 0) = 14 := rfl
theorem jm_46 : jLen 12 (46, 0) = 2 := rfl
theorem jm_47 : jLen 12 (47, 0) = 7 := rfl
theorem jm_48 : jLen 12 (48, 0) = 14 := rfl
theorem jm_49 : jLen 12 (49, 0) = 14 := rfl
theorem jm_50 : jLen 12 (50, 0) = 7 := rfl
theorem jm_55 : jLen 12 (55, 0) = 39 := rfl
theorem jm_56 : jLen 12 (56, 0) = 312 := rfl
theorem jm_58 : jLen 12 (58, 0) = 78 := rfl
theorem jm_60 : jLen 12 (60, 0) = 39 := rfl
theorem jm_61 : jLen 12 (61, 0) = 7 := rfl
theorem jm_62 : jLen 12 (62, 0) = 7 := rfl
theorem jm_63 : jLen 13 (63, 0) = 7 := rfl
theorem jm_64 : jLen 12 (64, 0) = 7 := rfl
theorem jm_66 : jLen 12 (66, 0) = 7 := rfl
theorem jm_67 : jLen 12 (67, 0) = 6 := rfl
theorem jm_68 : jLen 12 (68, 0) = 6 := rfl
theorem jm_40 : jLen 14 (40, 0) = 200 := rfl
/-- the numbers of a house in the row f of the reference -/
def rO (K a b l f : Nat) (M : jM) (h : jH) : Prop := hOk K a b l h ∧ rS a b M h ∧ rD a b l (M 12 (f, 0)) h ∧ (f = 55 ∨ f = 60)
theorem rO_len {K a b l f : Nat} {M : jM} {h : jH} (w : rO K a b l f M h) : jLen 12 (f, 0) = 39 := by
  rcases w.2.2.2 with rfl | rfl <;> rfl
def bts (x : Int32) : Int32 := jfor (fun k n => n + (x >>> (jn k &&& 31) &&& 1)) 8 0 0
theorem bc_bts {k : Nat} (h : k ≤ 255) : bc (jn k) = bts (jn k) := by
  have e : ∀ k : Fin 256, bc (jn k.1) = bts (jn k.1) := by decide +kernel
  exact e ⟨k, by omega⟩
section JRF
variable {d n K a b l f : Nat} {v : Option jV} {σ' : jS} {M : jM} {x y z : Int32} {h : jH}
/-- in -/
theorem r123 {σ : jS} : jE d 123 0 [some (.inl x), some (.inl y), some (.inl z)] [] σ v σ' ↔ v = some (.inl (jb (y ≤ x ∧ x ≤ z))) ∧ σ' = σ := by
  simp only [s123_0, s123_1, s123_2, s123_5, s123_6, s123_7, s123_10, s123_11, s123_14, s123_15]
  unfold jb
  by_cases h1 : x < y
  · rw [if_pos h1, if_neg (fun q => absurd q.1 (Int32.not_le.mpr h1))]
    exact ⟨fun q => q.2, fun q => ⟨by simp, q⟩⟩
  · rw [if_neg h1]
    by_cases h2 : z < x
    · rw [if_pos h2, if_neg (fun q => absurd q.2 (Int32.not_le.mpr h2))]
      exact ⟨fun q => q.2, fun q => ⟨by simp, q⟩⟩
    · rw [if_neg h2, if_pos ⟨Int32.not_lt.mp h1, Int32.not_lt.mp h2⟩]
      exact ⟨fun q => q.2, fun q => ⟨by simp, q⟩⟩
/-- isScene, isSeat -/
theorem r143 (w : rS a b M h) (w2 : h 10 10 = jn a) : jE (d + 1) 143 0 [some (.inr (.inr (some (11, (0, 0))))), some (.inl x)] [] (n, ([], M)) v σ' ↔ v = some (.inl (jb (0 ≤ x ∧ x ≤ h 10 10 - 1))) ∧ σ' = (n, ([], M)) := by
  simp only [s143_0, s143_1, s143_2, s143_3, s143_6, s143_7, s143_8, s143_9, s143_10, s143_13, jm_42, jk0, ji0 (show 0 < 2 by decide), r123, jcall_eq, Option.toList_some, Option.toList_none, List.cons_append, List.nil_append, w.1.1, w2]
  exact jb01 (jb_01 (0 ≤ x ∧ x ≤ jn a - 1))
theorem r144 (w : rS a b M h) (w2 : h 10 11 = jn b) : jE (d + 1) 144 0 [some (.inr (.inr (some (11, (0, 0))))), some (.inl x)] [] (n, ([], M)) v σ' ↔ v = some (.inl (jb (0 ≤ x ∧ x ≤ h 10 11 - 1))) ∧ σ' = (n, ([], M)) := by
  simp only [s144_0, s144_1, s144_2, s144_3, s144_6, s144_7, s144_8, s144_9, s144_10, s144_13, jm_46, jk0, ji0 (show 0 < 2 by decide), r123, jcall_eq, Option.toList_some, Option.toList_none, List.cons_append, List.nil_append, w.1.2, w2]
  exact jb01 (jb_01 (0 ≤ x ∧ x ≤ jn b - 1))
/-- placeOn -/
theorem r145_loop (w : rO K a b l f M h) : ∀ (g k : Nat) (r : Int32), k + g = l → (jE d 145 5 [some (.inr (.inr (some (12, (f, 0))))), some (.inl x), some (.inl r), some (.inl (jn k))] [] (n, ([], M)) v σ' ↔ v = some (.inl (jfor (fun i r => if h 4 i = x then jn i else r) g k r)) ∧ σ' = (n, ([], M))) := by
  have w1 := w.1.1
  have hL := rO_len w
  intro g
  induction g with
  | zero =>
    intro k r hk
    simp only [s145_5, s145_6, s145_7, s145_9, s145_10, s145_34, s145_35, hL, jk7, ji7 (show 7 < 39 by decide), w.2.2.1.2.1.1, w.1.2.1.2.2]
    rw [if_pos ((jn_le (by omega) (by omega)).mpr (by omega))]
    rfl
  | succ g ih =>
    intro k r hk
    simp only [s145_5, s145_6, s145_7, s145_9, s145_10, hL, jk7, ji7 (show 7 < 39 by decide), w.2.2.1.2.1.1, w.1.2.1.2.2]
    rw [if_neg (fun z => absurd ((jn_le (by omega) (by omega)).mp z) (by omega))]
    simp (disch := omega) only [s145_13, s145_14, s145_15, s145_16, s145_17, s145_18, s145_19, s145_22, s145_23, s145_26, s145_27, s145_28, hL, jnA0, jiz, jcl, w.2.2.1.1 k (by omega), jifN]
    rw [s145_31, s145_31, jn_1, ih (k + 1) _ (by omega), ih (k + 1) _ (by omega), jfor]
    by_cases h1 : h 4 k = x
    · rw [if_pos h1, if_pos h1]
    · rw [if_neg h1, if_neg h1]
theorem jfor_last {P : Nat → Prop} [DecidablePred P] : ∀ (g k : Nat) (r : Int32), (∀ i, k ≤ i → i < k + g → ¬ P i) → jfor (fun i r => if P i then jn i else r) g k r = r
  | 0, _, _, _ => rfl
  | g + 1, k, r, h => by
    rw [jfor, if_neg (h k (by omega) (by omega))]
    exact jfor_last g (k + 1) r (fun i h1 h2 => h i (by omega) (by omega))
theorem jfor_one {P : Nat → Prop} [DecidablePred P] : ∀ (g k p : Nat) (r : Int32), k ≤ p → p < k + g → P p → (∀ i, k ≤ i → i < k + g → P i → i = p) → jfor (fun i r => if P i then jn i else r) g k r = jn p
  | 0, k, p, _, h1, h2, _, _ => by omega
  | g + 1, k, p, r, h1, h2, h3, h4 => by
    rw [jfor]
    by_cases e : k = p
    · rw [if_pos (by rw [e]; exact h3), e]
      exact jfor_last g (p + 1) (jn p) (fun i q1 q2 z => by have := h4 i (by omega) (by omega) z; omega)
    · rw [if_neg (fun z => e (h4 k (by omega) (by omega) z))]
      exact jfor_one g (k + 1) p r (by omega) (by omega) h3 (fun i q1 q2 z => h4 i (by omega) (by omega) z)
theorem hOnBill_last (w : hOk K a b l h) : jfor (fun i r => if h 4 i = x then jn i else r) l 0 (-4) = hOnBill h x := by
  by_cases e : ∃ p, p < l ∧ h 4 p = x
  · obtain ⟨p, hp, ep⟩ := e
    rw [hOk_at w hp ep]
    exact jfor_one (P := fun i => h 4 i = x) l 0 p _ (by omega) (by omega) ep (fun i _ hi z => w.2.2.1.2 i p (by omega) hp (z.trans ep.symm))
  · rw [hOk_off w (fun i hi z => e ⟨i, hi, z⟩)]
    exact jfor_last (P := fun i => h 4 i = x) l 0 _ (fun i _ hi z => e ⟨i, by omega, z⟩)
theorem r145 (w : rO K a b l f M h) : jE d 145 0 [some (.inr (.inr (some (12, (f, 0))))), some (.inl x), none, none] [] (n, ([], M)) v σ' ↔ v = some (.inl (hOnBill h x)) ∧ σ' = (n, ([], M)) := by
  rw [s145_0, s145_2, s145_3, s145_4, show (0 : Int32) = jn 0 from rfl, r145_loop w l 0 (-4) (by omega), hOnBill_last w.1]
/-- placeIn -/
theorem r146_loop (w : rO K a b l f M h) {p s : Nat} (hp : p < b) (hs : h 9 p = jn s) : ∀ (g k : Nat), k + g = p → (jE d 146 2 [some (.inr (.inr (some (11, (0, 0))))), some (.inr (.inr (some (12, (f, 0))))), some (.inl (jn s)), some (.inl (jn k))] [] (n, ([], M)) v σ' ↔ v = some (.inl (jn p)) ∧ σ' = (n, ([], M))) := by
  have w1 := w.1.1
  have hL := rO_len w
  intro g
  induction g with
  | zero =>
    intro k hk
    simp (disch := omega) only [s146_2, s146_3, s146_5, s146_6, s146_7, s146_8, s146_9, hL, jnA18, jiz, jcl, (w.2.2.1.2.2.1 k (by omega)).2.1]
    rw [if_pos (by rw [show k = p by omega]; exact hs), s146_18, s146_19, show k = p by omega]
  | succ g ih =>
    intro k hk
    simp (disch := omega) only [s146_2, s146_3, s146_5, s146_6, s146_7, s146_8, s146_9, hL, jnA18, jiz, jcl, (w.2.2.1.2.2.1 k (by omega)).2.1]
    rw [if_neg (fun z => by have := w.1.2.2.2.1.2 k p (by omega) hp (z.trans hs.symm); omega), s146_12, s146_15, jn_1]
    exact ih (k + 1) (by omega)
theorem r146 (w : rO K a b l f M h) {s : Nat} (hs : s < b) : jE d 146 0 [some (.inr (.inr (some (11, (0, 0))))), some (.inr (.inr (some (12, (f, 0))))), some (.inl (jn s)), none] [] (n, ([], M)) v σ' ↔ v = some (.inl (hInLine h (jn s))) ∧ σ' = (n, ([], M)) := by
  have w1 := w.1.1
  obtain ⟨p, hp, e⟩ := cIn_all (by omega) w.1.2.2.2.1 hs
  rw [s146_0, s146_1, show (0 : Int32) = jn 0 from rfl, r146_loop w hp e p 0 (by omega), hOk_line w.1 hp e]
/-- bitsOf -/
theorem r147_loop {σ : jS} : ∀ (g k : Nat) (r : Int32), k + g = 8 → (jE d 147 4 [some (.inl x), some (.inl r), some (.inl (jn k))] [] σ v σ' ↔ v = some (.inl (jfor (fun k n => n + (x >>> (jn k &&& 31) &&& 1)) g k r)) ∧ σ' = σ) := by
  intro g
  induction g with
  | zero =>
    intro k r hk
    rw [s147_4, s147_5, s147_7, if_pos (show (8 : Int32) ≤ jn k from (jn_le (k := 8) (by omega) (by omega)).mpr (by omega)), s147_24, s147_25]
    rfl
  | succ g ih =>
    intro k r hk
    rw [s147_4, s147_5, s147_7, if_neg (show ¬ (8 : Int32) ≤ jn k from fun z => absurd ((jn_le (k := 8) (by omega) (by omega)).mp z) (by omega))]
    simp only [s147_10, s147_11, s147_12, s147_13, s147_14, s147_15, s147_16, s147_17, s147_18]
    rw [s147_21, jn_1, ih (k + 1) _ (by omega)]
    rfl
theorem r147 {σ : jS} : jE d 147 0 [some (.inl x), none, none] [] σ v σ' ↔ v = some (.inl (bts x)) ∧ σ' = σ := by
  rw [s147_0, s147_1, s147_2, s147_3]
  exact r147_loop 8 0 0 (by omega)
/-- claquesOf -/
theorem r148_loop (w : rO K a b l f M h) : ∀ (g k : Nat) (r : Int32), k + g = b → (jE d 148 4 [some (.inr (.inr (some (11, (0, 0))))), some (.inr (.inr (some (12, (f, 0))))), some (.inl r), some (.inl (jn k))] [] (n, ([], M)) v σ' ↔ v = some (.inl (jfor (fun k c => if rg 7 (h 5) (jn k) = 3 then c + 1 else c) g k r)) ∧ σ' = (n, ([], M))) := by
  have w1 := w.1.1
  have hL := rO_len w
  intro g
  induction g with
  | zero =>
    intro k r hk
    simp only [s148_4, s148_5, s148_6, s148_9, s148_10, s148_11, jm_46, jk0, ji0 (show 0 < 2 by decide), w.2.1.1.2]
    rw [if_pos ((jn_le (by omega) (by omega)).mpr (by omega)), s148_38, s148_39]
    rfl
  | succ g ih =>
    intro k r hk
    simp only [s148_4, s148_5, s148_6, s148_9, s148_10, s148_11, jm_46, jk0, ji0 (show 0 < 2 by decide), w.2.1.1.2]
    rw [if_neg (fun z => absurd ((jn_le (by omega) (by omega)).mp z) (by omega))]
    simp (disch := omega) only [s148_14, s148_15, s148_16, s148_18, s148_19, s148_20, s148_21, s148_22, s148_25, s148_26, s148_29, s148_30, s148_31, s148_32, hL, jnA11, jiz, jcl, (w.2.2.1.2.2.1 k (by omega)).1, jifN]
    rw [s148_35, s148_35, jn_1, ih (k + 1) _ (by omega), ih (k + 1) _ (by omega), jfor, rg_in (by omega) (by omega)]
    by_cases h1 : h 5 k = 3
    · rw [if_pos h1, if_pos h1]
    · rw [if_neg h1, if_neg h1, Int32.add_zero]
theorem r148 (w : rO K a b l f M h) : jE d 148 0 [some (.inr (.inr (some (11, (0, 0))))), some (.inr (.inr (some (12, (f, 0))))), none, none] [] (n, ([], M)) v σ' ↔ v = some (.inl (hClq h)) ∧ σ' = (n, ([], M)) := by
  rw [s148_0, s148_1, s148_2, s148_3, show some (Sum.inl (0 : Int32)) = (some (Sum.inl (jn 0)) : Option jV) from rfl, r148_loop w b 0 (jn 0) (by omega)]
  unfold hClq
  rw [hOk_S w.1]
  rfl
/-- boundOf -/
theorem r149_loop (w : rO K a b l f M h) : ∀ (g k : Nat) (r : Int32), k + g = b → (jE (d + 1) 149 4 [some (.inr (.inr (some (11, (0, 0))))), some (.inr (.inr (some (12, (f, 0))))), some (.inl r), some (.inl (jn k))] [] (n, ([], M)) v σ' ↔ v = some (.inl (jfor (fun k c => c + bc (rg 7 (h 8) (jn k))) g k r)) ∧ σ' = (n, ([], M))) := by
  have w1 := w.1.1
  have hL := rO_len w
  intro g
  induction g with
  | zero =>
    intro k r hk
    simp only [s149_4, s149_5, s149_6, s149_9, s149_10, s149_11, jm_46, jk0, ji0 (show 0 < 2 by decide), w.2.1.1.2]
    rw [if_pos ((jn_le (by omega) (by omega)).mpr (by omega)), s149_32, s149_33]
    rfl
  | succ g ih =>
    intro k r hk
    obtain ⟨m, _, hm2, hm3⟩ := w.1.2.2.2.2.2.2.2.2 k (by omega)
    simp only [s149_4, s149_5, s149_6, s149_9, s149_10, s149_11, jm_46, jk0, ji0 (show 0 < 2 by decide), w.2.1.1.2]
    rw [if_neg (fun z => absurd ((jn_le (by omega) (by omega)).mp z) (by omega))]
    simp (disch := omega) only [s149_14, s149_15, s149_16, s149_18, s149_19, s149_20, s149_21, s149_24, s149_25, s149_26, hL, jnA25, jiz, jcl, (w.2.2.1.2.2.1 k (by omega)).2.2, r147, jcall_eq, Option.toList_some, Option.toList_none, List.cons_append, List.nil_append]
    rw [s149_29, jn_1, ih (k + 1) _ (by omega), jfor, rg_in (by omega) (by omega), hm3, bc_bts hm2]
theorem r149 (w : rO K a b l f M h) : jE (d + 1) 149 0 [some (.inr (.inr (some (11, (0, 0))))), some (.inr (.inr (some (12, (f, 0))))), none, none] [] (n, ([], M)) v σ' ↔ v = some (.inl (hBnd h)) ∧ σ' = (n, ([], M)) := by
  rw [s149_0, s149_1, s149_2, s149_3, show some (Sum.inl (0 : Int32)) = (some (Sum.inl (jn 0)) : Option jV) from rfl, r149_loop w b 0 (jn 0) (by omega)]
  unfold hBnd
  rw [hOk_S w.1]
  rfl
end JRF
