/-! what holds of every house that was opened -/
theorem pig : ∀ (a l : Nat) (f : Nat → Nat), (∀ i, i < l → f i < a) → (∀ i j, i < l → j < l → f i = f j → i = j) → l ≤ a := by
  intro a
  induction a with
  | zero =>
    intro l f h1 _
    cases l with
    | zero => exact Nat.le_refl 0
    | succ l => exact absurd (h1 0 (by omega)) (by omega)
  | succ a ih =>
    intro l f h1 h2
    by_cases hx : ∃ i, i < l ∧ f i = a
    · obtain ⟨i, hi, hfi⟩ := hx
      have h3 := ih (l - 1) (fun j => if j = i then f (l - 1) else f j) (fun j hj => ?_) (fun j k hj hk e => ?_)
      · omega
      · by_cases e : j = i
        · rw [if_pos e]
          have h4 := h1 (l - 1) (by omega)
          by_cases e2 : f (l - 1) = a
          · have := h2 (l - 1) i (by omega) hi (e2.trans hfi.symm)
            omega
          · omega
        · rw [if_neg e]
          have h4 := h1 j (by omega)
          by_cases e2 : f j = a
          · exact absurd (h2 j i (by omega) hi (e2.trans hfi.symm)) e
          · omega
      · by_cases e1 : j = i
        · by_cases e2 : k = i
          · omega
          · rw [if_pos e1, if_neg e2] at e
            have := h2 _ _ (by omega) (by omega) e
            omega
        · by_cases e2 : k = i
          · rw [if_neg e1, if_pos e2] at e
            have := h2 _ _ (by omega) (by omega) e
            omega
          · rw [if_neg e1, if_neg e2] at e
            exact h2 _ _ (by omega) (by omega) e
    · have := ih l f (fun i hi => by
        have h4 := h1 i hi
        by_cases e2 : f i = a
        · exact absurd ⟨i, hi, e2⟩ hx
        · omega) h2
      omega
/-- an injection that misses a value -/
theorem pig1 {a l s : Nat} {f : Nat → Nat} (h1 : ∀ i, i < l → f i < a) (h2 : ∀ i j, i < l → j < l → f i = f j → i = j) (hs : s < a) (h3 : ∀ i, i < l → f i ≠ s) : l < a := by
  have := pig a (l + 1) (fun i => if i = l then s else f i) (fun i hi => ?_) (fun i j hi hj e => ?_)
  · omega
  · by_cases e : i = l
    · rw [if_pos e]; exact hs
    · rw [if_neg e]; exact h1 i (by omega)
  · by_cases e1 : i = l
    · by_cases e2 : j = l
      · omega
      · rw [if_pos e1, if_neg e2] at e
        exact absurd e.symm (h3 j (by omega))
    · by_cases e2 : j = l
      · rw [if_neg e1, if_pos e2] at e
        exact absurd e (h3 i (by omega))
      · rw [if_neg e1, if_neg e2] at e
        exact h2 i j (by omega) (by omega) e
theorem jn_inj {a b : Nat} (ha : a < 2147483648) (hb : b < 2147483648) (h : jn a = jn b) : a = b := (jn_eq ha hb).mp h
/-- l cells that name different numbers below a -/
def cIn (l a : Nat) (c : Nat → Int32) : Prop := (∀ i, i < l → ∃ s, s < a ∧ c i = jn s) ∧ ∀ i j, i < l → j < l → c i = c j → i = j
/-- m cells of the numbers lo to hi -/
def cBd (m lo hi : Nat) (c : Nat → Int32) : Prop := ∀ i, i < m → ∃ k, lo ≤ k ∧ k ≤ hi ∧ c i = jn k
def hOk (K a b l : Nat) (h : Nat → Nat → Int32) : Prop :=
  (1 ≤ a ∧ a ≤ 7 ∧ 1 ≤ b ∧ b ≤ 7 ∧ l ≤ a) ∧ (h 10 10 = jn a ∧ h 10 11 = jn b ∧ h 10 12 = jn l) ∧ cIn l a (h 4) ∧ cIn b b (h 9) ∧
  (cBd a 0 3 (h 0) ∧ cBd a 1 20 (h 1) ∧ cBd a 0 8 (h 2) ∧ cBd a 0 K (h 3)) ∧ (cBd b 0 3 (h 5) ∧ cBd b 0 3 (h 6) ∧ cBd b 0 30 (h 7) ∧ cBd b 0 255 (h 8))
theorem cIn_f {l a : Nat} {c : Nat → Int32} (ha : a ≤ 7) (h : cIn l a c) : (∀ i, i < l → (c i).toNatClampNeg < a) ∧ (∀ i j, i < l → j < l → (c i).toNatClampNeg = (c j).toNatClampNeg → i = j) := by
  constructor
  · intro i hi
    obtain ⟨s, h1, h2⟩ := h.1 i hi
    rw [h2, jn_clamp (by omega)]
    exact h1
  · intro i j hi hj e
    obtain ⟨s, h1, h2⟩ := h.1 i hi
    obtain ⟨t, h3, h4⟩ := h.1 j hj
    rw [h2, h4, jn_clamp (by omega), jn_clamp (by omega)] at e
    exact h.2 i j hi hj (by rw [h2, h4, e])
theorem cIn_le {l a : Nat} {c : Nat → Int32} (ha : a ≤ 7) (h : cIn l a c) : l ≤ a := pig a l _ (cIn_f ha h).1 (cIn_f ha h).2
theorem cIn_lt {l a s : Nat} {c : Nat → Int32} (ha : a ≤ 7) (h : cIn l a c) (hs : s < a) (hm : ∀ i, i < l → c i ≠ jn s) : l < a := by
  refine pig1 (cIn_f ha h).1 (cIn_f ha h).2 hs (fun i hi e => hm i hi ?_)
  obtain ⟨t, h1, h2⟩ := h.1 i hi
  rw [h2, jn_clamp (by omega)] at e
  rw [h2, e]
/-- a row that names them all -/
theorem cIn_all {b s : Nat} {c : Nat → Int32} (hb : b ≤ 7) (h : cIn b b c) (hs : s < b) : ∃ i, i < b ∧ c i = jn s := by
  by_cases hx : ∃ i, i < b ∧ c i = jn s
  · exact hx
  · have := cIn_lt hb h hs (fun i hi e => hx ⟨i, hi, e⟩)
    omega
theorem rfind_none {L : Nat} {c : Nat → Int32} {x : Int32} (hL : L ≤ 1000) : ∀ f k, k + f ≤ L → rfind L c x f k = -4 → ∀ i, k ≤ i → i < k + f → c i ≠ x
  | 0, k, _, _, i, h1, h2 => by omega
  | f + 1, k, hk, h, i, h1, h2 => by
    rw [rfind, rg_in hL (by omega)] at h
    by_cases e : c k = x
    · rw [if_pos e] at h
      exact absurd (show jn k < 0 by rw [h]; decide) (jn_npos (by omega))
    · rw [if_neg e] at h
      by_cases e2 : i = k
      · rw [e2]; exact e
      · exact rfind_none hL f (k + 1) (by omega) h i (by omega) (by omega)
theorem rfind_some {L : Nat} {c : Nat → Int32} {x : Int32} (hL : L ≤ 1000) : ∀ f k p, k + f ≤ L → k ≤ p → p < k + f → c p = x → (∀ i, k ≤ i → i < p → c i ≠ x) → rfind L c x f k = jn p
  | 0, k, p, _, h1, h2, _, _ => by omega
  | f + 1, k, p, hk, h1, h2, h3, h4 => by
    rw [rfind, rg_in hL (by omega)]
    by_cases e : k = p
    · rw [e, if_pos h3]
    · rw [if_neg (h4 k (by omega) (by omega))]
      exact rfind_some hL f (k + 1) p (by omega) (by omega) (by omega) h3 (fun i hi hp => h4 i (by omega) hp)
theorem rfind_miss {L : Nat} {c : Nat → Int32} {x : Int32} (hL : L ≤ 1000) : ∀ f k, k + f ≤ L → (∀ i, k ≤ i → i < k + f → c i ≠ x) → rfind L c x f k = -4
  | 0, _, _, _ => rfl
  | f + 1, k, hk, h => by
    rw [rfind, rg_in hL (by omega), if_neg (h k (by omega) (by omega))]
    exact rfind_miss hL f (k + 1) (by omega) (fun i h1 h2 => h i (by omega) (by omega))
section JW
variable {K a b l : Nat} {h : Nat → Nat → Int32}
theorem hOk_B (w : hOk K a b l h) : hB h = l := by
  unfold hB
  rw [w.2.1.2.2]
  exact jn_clamp (by have := w.1; omega)
theorem hOk_S (w : hOk K a b l h) : hS h = b := by
  unfold hS
  rw [w.2.1.2.1]
  exact jn_clamp (by have := w.1; omega)
theorem hOk_C (w : hOk K a b l h) : hSc0 h = a := by
  unfold hSc0
  rw [w.2.1.1]
  exact jn_clamp (by have := w.1; omega)
/-- on the bill at p -/
theorem hOk_at {p : Nat} {x : Int32} (w : hOk K a b l h) (hp : p < l) (hx : h 4 p = x) : hOnBill h x = jn p := by
  have w1 := w.1
  unfold hOnBill
  rw [hOk_B w]
  exact rfind_some (by omega) l 0 p (by omega) (by omega) (by omega) hx (fun i _ hi e => by
    have := w.2.2.1.2 i p (by omega) hp (e.trans hx.symm)
    omega)
theorem hOk_off {x : Int32} (w : hOk K a b l h) (hx : ∀ i, i < l → h 4 i ≠ x) : hOnBill h x = -4 := by
  have w1 := w.1
  unfold hOnBill
  rw [hOk_B w]
  exact rfind_miss (by omega) l 0 (by omega) (fun i _ hi => hx i (by omega))
theorem jn_ne4 {p : Nat} (hp : p < 2147483648) : ¬ jn p = -4 := by
  intro z
  exact jn_npos hp (by rw [z]; decide)
theorem hOk_billed {x : Int32} (w : hOk K a b l h) : hBilled h x ↔ ∃ p, p < l ∧ h 4 p = x := by
  have w1 := w.1
  constructor
  · intro hx
    have h1 : ¬ ∀ i, i < l → h 4 i ≠ x := fun z => hx (hOk_off w z)
    by_cases h2 : ∃ p, p < l ∧ h 4 p = x
    · exact h2
    · exact absurd (fun i hi e => h2 ⟨i, hi, e⟩) h1
  · rintro ⟨p, hp, e⟩
    unfold hBilled
    rw [hOk_at w hp e]
    exact jn_ne4 (by omega)
theorem hOk_room {s : Nat} (w : hOk K a b l h) (hs : s < a) (hx : ¬ hBilled h (jn s)) : l < a := by
  have w1 := w.1
  exact cIn_lt (by omega) w.2.2.1 hs (fun i hi e => hx ((hOk_billed w).mpr ⟨i, hi, e⟩))
/-- in the line at p -/
theorem hOk_line {p : Nat} {x : Int32} (w : hOk K a b l h) (hp : p < b) (hx : h 9 p = x) : hInLine h x = jn p := by
  have w1 := w.1
  unfold hInLine
  rw [hOk_S w]
  exact rfind_some (by omega) b 0 p (by omega) (by omega) (by omega) hx (fun i _ hi e => by
    have := w.2.2.2.1.2 i p (by omega) hp (e.trans hx.symm)
    omega)
theorem hOk_K {K' : Nat} (w : hOk K a b l h) (hK : K ≤ K') : hOk K' a b l h := by
  refine ⟨w.1, w.2.1, w.2.2.1, w.2.2.2.1, ⟨w.2.2.2.2.1.1, w.2.2.2.2.1.2.1, w.2.2.2.2.1.2.2.1, fun i hi => ?_⟩, w.2.2.2.2.2⟩
  obtain ⟨k, h1, h2, h3⟩ := w.2.2.2.2.1.2.2.2 i hi
  exact ⟨k, h1, by omega, h3⟩
theorem cIn_ins {s p : Nat} {c : Nat → Int32} (hc : cIn l a c) (hs : s < a) (hp : p ≤ l) (hm : ∀ i, i < l → c i ≠ jn s) : cIn (l + 1) a (rins c p l (jn s)) := by
  have e : ∀ i, rins c p l (jn s) i = if i < p then c i else if i = p then jn s else if i ≤ l then c (i - 1) else c i := fun i => rfl
  constructor
  · intro i hi
    rw [e]
    by_cases h1 : i < p
    · rw [if_pos h1]; exact hc.1 i (by omega)
    · rw [if_neg h1]
      by_cases h2 : i = p
      · rw [if_pos h2]; exact ⟨s, hs, rfl⟩
      · rw [if_neg h2, if_pos (by omega)]; exact hc.1 (i - 1) (by omega)
  · intro i j hi hj
    rw [e, e]
    by_cases h1 : i < p
    · rw [if_pos h1]
      by_cases h3 : j < p
      · rw [if_pos h3]; exact hc.2 i j (by omega) (by omega)
      · rw [if_neg h3]
        by_cases h4 : j = p
        · rw [if_pos h4]; exact fun z => absurd z (hm i (by omega))
        · rw [if_neg h4, if_pos (by omega)]
          intro z
          have := hc.2 i (j - 1) (by omega) (by omega) z
          omega
    · rw [if_neg h1]
      by_cases h2 : i = p
      · rw [if_pos h2]
        by_cases h3 : j < p
        · rw [if_pos h3]; exact fun z => absurd z.symm (hm j (by omega))
        · rw [if_neg h3]
          by_cases h4 : j = p
          · intro _; omega
          · rw [if_neg h4, if_pos (by omega)]; exact fun z => absurd z.symm (hm (j - 1) (by omega))
      · rw [if_neg h2, if_pos (by omega)]
        by_cases h3 : j < p
        · rw [if_pos h3]
          intro z
          have := hc.2 (i - 1) j (by omega) (by omega) z
          omega
        · rw [if_neg h3]
          by_cases h4 : j = p
          · rw [if_pos h4]; exact fun z => absurd z (hm (i - 1) (by omega))
          · rw [if_neg h4, if_pos (by omega)]
            intro z
            have := hc.2 (i - 1) (j - 1) (by omega) (by omega) z
            omega
theorem hSc_10 (h : Nat → Nat → Int32) (s : Nat) (x : Int32) : hSc h s x 10 s = x := by
  unfold hSc
  rw [nset_at]
  exact if_pos rfl
theorem hSc_10' {h : Nat → Nat → Int32} {s s' : Nat} {x : Int32} (e : s' ≠ s) : hSc h s x 10 s' = h 10 s' := by
  unfold hSc
  rw [nset_at]
  exact if_neg e
theorem hSc_f {h : Nat → Nat → Int32} {s f : Nat} {x : Int32} (e : f ≠ 10) : hSc h s x f = h f := nset_ne e
theorem hOk_mount {s p : Nat} (w : hOk K a b l h) (hs : s < a) (hp : p ≤ l) (hx : ¬ hBilled h (jn s)) : hOk K a b (l + 1) (hMount h (jn s) p) := by
  have w1 := w.1
  have hr := hOk_room w hs hx
  have hm : ∀ i, i < l → h 4 i ≠ jn s := fun i hi e => hx ((hOk_billed w).mpr ⟨i, hi, e⟩)
  unfold hMount
  rw [hOk_B w]
  refine ⟨⟨w1.1, w1.2.1, w1.2.2.1, w1.2.2.2.1, by omega⟩, ⟨?_, ?_, ?_⟩, ?_, ?_, ?_, ?_⟩
  · rw [hSc_10' (by decide), nset_ne (by decide)]; exact w.2.1.1
  · rw [hSc_10' (by decide), nset_ne (by decide)]; exact w.2.1.2.1
  · rw [hSc_10]
  · rw [hSc_f (by decide), nset_at]
    exact cIn_ins w.2.2.1 hs hp hm
  · rw [hSc_f (by decide), nset_ne (by decide)]; exact w.2.2.2.1
  · rw [hSc_f (by decide), hSc_f (by decide), hSc_f (by decide), hSc_f (by decide), nset_ne (by decide), nset_ne (by decide), nset_ne (by decide), nset_ne (by decide)]
    exact w.2.2.2.2.1
  · rw [hSc_f (by decide), hSc_f (by decide), hSc_f (by decide), hSc_f (by decide), nset_ne (by decide), nset_ne (by decide), nset_ne (by decide), nset_ne (by decide)]
    exact w.2.2.2.2.2
theorem hOk_strike {x : Int32} (w : hOk K a b l h) (hx : hBilled h x) : hOk K a b (l - 1) (hStrike h x) := by
  have w1 := w.1
  obtain ⟨p, hp, e⟩ := (hOk_billed w).mp hx
  have e1 := hOk_at w hp e
  unfold hStrike
  rw [hOk_B w, e1, jn_clamp (by omega), w.2.1.2.2]
  have e2 : jn l - 1 = jn (l - 1) := by
    conv => lhs; rw [show l = l - 1 + 1 by omega]
    exact jn_sub1 _
  have er : ∀ i, rrem (h 4) p l i = if p ≤ i ∧ i + 1 < l then h 4 (i + 1) else h 4 i := fun i => rfl
  refine ⟨⟨w1.1, w1.2.1, w1.2.2.1, w1.2.2.2.1, by omega⟩, ⟨?_, ?_, ?_⟩, ?_, ?_, ?_, ?_⟩
  · rw [hSc_10' (by decide), nset_ne (by decide)]; exact w.2.1.1
  · rw [hSc_10' (by decide), nset_ne (by decide)]; exact w.2.1.2.1
  · rw [hSc_10, e2]
  · rw [hSc_f (by decide), nset_at]
    constructor
    · intro i hi
      rw [er]
      by_cases h1 : p ≤ i ∧ i + 1 < l
      · rw [if_pos h1]; exact w.2.2.1.1 _ h1.2
      · rw [if_neg h1]; exact w.2.2.1.1 _ (by omega)
    · intro i j hi hj
      rw [er, er]
      by_cases h1 : p ≤ i ∧ i + 1 < l
      · rw [if_pos h1]
        by_cases h2 : p ≤ j ∧ j + 1 < l
        · rw [if_pos h2]
          intro z
          have := w.2.2.1.2 _ _ h1.2 h2.2 z
          omega
        · rw [if_neg h2]
          intro z
          have := w.2.2.1.2 _ _ h1.2 (by omega) z
          omega
      · rw [if_neg h1]
        by_cases h2 : p ≤ j ∧ j + 1 < l
        · rw [if_pos h2]
          intro z
          have := w.2.2.1.2 _ _ (by omega) h2.2 z
          omega
        · rw [if_neg h2]
          exact w.2.2.1.2 _ _ (by omega) (by omega)
  · rw [hSc_f (by decide), nset_ne (by decide)]; exact w.2.2.2.1
  · rw [hSc_f (by decide), hSc_f (by decide), hSc_f (by decide), hSc_f (by decide), nset_ne (by decide), nset_ne (by decide), nset_ne (by decide), nset_ne (by decide)]
    exact w.2.2.2.2.1
  · rw [hSc_f (by decide), hSc_f (by decide), hSc_f (by decide), hSc_f (by decide), nset_ne (by decide), nset_ne (by decide), nset_ne (by decide), nset_ne (by decide)]
    exact w.2.2.2.2.2
theorem swp_at (c : Nat → Int32) (p q i : Nat) : swp c p q i = if i = q then c p else if i = p then c q else c i := rfl
theorem cIn_swp {p q : Nat} {c : Nat → Int32} (hc : cIn l a c) (hp : p < l) (hq : q < l) : cIn l a (swp c p q) := by
  have hn : ∀ i, i < l → ∃ j, j < l ∧ swp c p q i = c j ∧ (i = q → j = p) ∧ (i = p ∧ i ≠ q → j = q) ∧ (i ≠ p ∧ i ≠ q → j = i) := by
    intro i hi
    rw [swp_at]
    by_cases h1 : i = q
    · rw [if_pos h1]; exact ⟨p, hp, rfl, fun _ => rfl, fun z => absurd h1 z.2, fun z => absurd h1 z.2⟩
    · rw [if_neg h1]
      by_cases h2 : i = p
      · rw [if_pos h2]; exact ⟨q, hq, rfl, fun z => absurd z h1, fun _ => rfl, fun z => absurd h2 z.1⟩
      · rw [if_neg h2]; exact ⟨i, hi, rfl, fun z => absurd z h1, fun z => absurd z.1 h2, fun _ => rfl⟩
  constructor
  · intro i hi
    obtain ⟨j, h1, h2, _⟩ := hn i hi
    rw [h2]
    exact hc.1 j h1
  · intro i j hi hj z
    obtain ⟨i', h1, h2, h3⟩ := hn i hi
    obtain ⟨j', h4, h5, h6⟩ := hn j hj
    rw [h2, h5] at z
    have := hc.2 _ _ h1 h4 z
    omega
theorem hTrade_eq {p q : Nat} {x y : Int32} (w : hOk K a b l h) (hp : p < b) (hq : q < b) (hx : h 9 p = x) (hy : h 9 q = y) : hTrade h x y = nset h 9 (swp (h 9) p q) := by
  have w1 := w.1
  unfold hTrade
  rw [hOk_line w hp hx, hOk_line w hq hy, rg_in (by omega) (by omega), rg_in (by omega) (by omega), rs_in (by omega) (by omega), rs_in (by omega) (by omega)]
  rfl
theorem hOk_set9 {c : Nat → Int32} (w : hOk K a b l h) (hc : cIn b b c) : hOk K a b l (nset h 9 c) := by
  refine ⟨w.1, ?_, ?_, ?_, ?_, ?_⟩
  · rw [nset_ne (by decide)]; exact w.2.1
  · rw [nset_ne (by decide)]; exact w.2.2.1
  · rw [nset_at]; exact hc
  · rw [nset_ne (by decide), nset_ne (by decide), nset_ne (by decide), nset_ne (by decide)]; exact w.2.2.2.2.1
  · rw [nset_ne (by decide), nset_ne (by decide), nset_ne (by decide), nset_ne (by decide)]; exact w.2.2.2.2.2
theorem hOk_trade {s t : Nat} (w : hOk K a b l h) (hs : s < b) (ht : t < b) : hOk K a b l (hTrade h (jn s) (jn t)) := by
  have w1 := w.1
  obtain ⟨p, hp, e1⟩ := cIn_all (by omega) w.2.2.2.1 hs
  obtain ⟨q, hq, e2⟩ := cIn_all (by omega) w.2.2.2.1 ht
  rw [hTrade_eq w hp hq e1 e2]
  exact hOk_set9 w (cIn_swp w.2.2.2.1 hp hq)
theorem cBd_put {m lo hi k : Nat} {c : Nat → Int32} {x : Int32} (hc : cBd m lo hi c) (h1 : lo ≤ k) (h2 : k ≤ hi) : cBd m lo hi (rs 7 c x (jn k)) := by
  intro i hi
  unfold rs
  by_cases e1 : x < 0
  · rw [if_pos e1]; exact hc i hi
  · rw [if_neg e1]
    by_cases e2 : jn 7 ≤ x
    · rw [if_pos e2]; exact hc i hi
    · rw [if_neg e2]
      unfold upd
      by_cases e3 : i = x.toNatClampNeg
      · rw [if_pos e3]; exact ⟨k, h1, h2, rfl⟩
      · rw [if_neg e3]; exact hc i hi
theorem hOk_eng {x : Int32} (w : hOk K a b l h) : hOk K a b l (hEng h x) := by
  unfold hEng
  refine ⟨w.1, ⟨?_, ?_, ?_⟩, ?_, ?_, ?_, ?_⟩
  · rw [hSc_10' (by decide), nset_ne (by decide)]; exact w.2.1.1
  · rw [hSc_10' (by decide), nset_ne (by decide)]; exact w.2.1.2.1
  · rw [hSc_10' (by decide), nset_ne (by decide)]; exact w.2.1.2.2
  · rw [hSc_f (by decide), nset_ne (by decide)]; exact w.2.2.1
  · rw [hSc_f (by decide), nset_ne (by decide)]; exact w.2.2.2.1
  · rw [hSc_f (by decide), hSc_f (by decide), hSc_f (by decide), hSc_f (by decide), nset_ne (by decide), nset_ne (by decide), nset_ne (by decide), nset_ne (by decide)]
    exact w.2.2.2.2.1
  · rw [hSc_f (by decide), hSc_f (by decide), hSc_f (by decide), hSc_f (by decide), nset_at, nset_ne (by decide), nset_ne (by decide), nset_ne (by decide)]
    exact ⟨cBd_put (k := 3) w.2.2.2.2.2.1 (by omega) (by omega), w.2.2.2.2.2.2⟩
end JW
