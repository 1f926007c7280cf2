/-! a night here and there -/
def sumF (F : Nat → Nat) : Nat → Nat
  | 0 => 0
  | n + 1 => sumF F n + F n
theorem sumF_congr {F G : Nat → Nat} : ∀ n, (∀ i, i < n → F i = G i) → sumF F n = sumF G n
  | 0, _ => rfl
  | n + 1, h => by rw [sumF, sumF, sumF_congr n (fun i hi => h i (by omega)), h n (by omega)]
theorem sumF_one {F G : Nat → Nat} {q : Nat} : ∀ n, q < n → (∀ i, i < n → i ≠ q → F i = G i) → sumF G n + F q = sumF F n + G q
  | 0, h, _ => by omega
  | n + 1, h, e => by
    rw [sumF, sumF]
    by_cases hq : q = n
    · subst hq
      rw [sumF_congr (F := G) (G := F) q (fun i hi => (e i (by omega) (by omega)).symm)]
      omega
    · have := sumF_one n (show q < n by omega) (fun i hi => e i (by omega))
      rw [e n (by omega) (by omega)]
      omega
theorem sumF_le {F : Nat → Nat} {c : Nat} : ∀ n, (∀ i, i < n → F i ≤ c) → sumF F n ≤ c * n
  | 0, _ => Nat.le_refl _
  | n + 1, h => by
    rw [sumF, Nat.mul_succ]
    have h1 := sumF_le n (fun i hi => h i (by omega))
    have h2 := h n (by omega)
    omega
theorem sumF_add {F G : Nat → Nat} : ∀ n, sumF (fun i => F i + G i) n = sumF F n + sumF G n
  | 0 => rfl
  | n + 1 => by rw [sumF, sumF, sumF, sumF_add n]; omega
def lf (nv : jH) (s : Nat) : Nat := if nv 1 s = 0 then 0 else 1
def RG (b : Nat) (nv g : jH) : Prop := ∀ s, s < b → g 0 s = (if nv 1 s = 0 then -4 else nv 1 s) ∧ g 1 s = nv 0 s ∧ g 2 s = nv 2 s ∧ g 3 s = nv 3 s
def NI (b B : Nat) (y : Int32) (h nv : jH) : Prop :=
  (∀ s, s < b → (∃ u, u ≤ B ∧ nv 0 s = jn u) ∧ (∃ u, u ≤ 7 ∧ nv 1 s = jn u) ∧ (nv 2 s = 0 ∨ (nv 2 s = 1 ∧ h 5 s = 1)) ∧ (h 5 s = 3 → nv 1 s = 0 ∨ ¬ y >>> (jn s &&& 31) &&& 1 = 0)) ∧
  (∀ p, p < b → nv 4 p = jb (¬ nv 1 (ln h p) = 0)) ∧ (∀ p, b ≤ p → p < 7 → nv 4 p = 0) ∧ nv 5 0 = jn (sumF (lf nv) b)
theorem jn_mul (a b : Nat) : jn a * jn b = jn (a * b) := (Int32.ofNat_mul a b).symm
theorem jn_sub {a b : Nat} (h : b ≤ a) : jn a - jn b = jn (a - b) := by
  conv => lhs; rw [show a = (a - b) + b by omega, ← jn_add]
  exact Int32.add_sub_cancel _ _
theorem jn_sub_neg {a b : Nat} (h : a < b) (hb : b < 2147483648) : jn a - jn b < 0 := by
  rw [Int32.lt_iff_toInt_lt, Int32.toInt_sub, jn_int (by omega), jn_int hb]
  rw [Int.bmod_eq_of_le (by omega) (by omega)]
  show (a : Int) - (b : Int) < 0
  omega
section JSM
variable {K a b l B : Nat} {y : Int32} {h g nv : jH}
theorem RG_0 (w : RG b nv g) (hn : ∀ s, s < b → ∃ u, u ≤ 7 ∧ nv 1 s = jn u) {s : Nat} (hs : s < b) : g 0 s = -4 ↔ nv 1 s = 0 := by
  rw [(w s hs).1]
  by_cases e : nv 1 s = 0
  · rw [if_pos e]; exact ⟨fun _ => e, fun _ => rfl⟩
  · rw [if_neg e]
    obtain ⟨u, h1, h2⟩ := hn s hs
    exact ⟨fun z => absurd (by rw [← h2]; exact z) (jn_ne4 (p := u) (by omega)), fun z => absurd z e⟩
theorem bored_eq (w : hOk K a b l h) (hK : K ≤ 1000000) (hB : B ≤ 10000) {q s u : Nat} (hq : q < b) (hs : s < a) (hu : nv 0 q = jn u) (hu2 : u ≤ B) :
    nBored h nv (jn q) (jn s) = (if nv 0 q + mMore h q s < 0 then 0 else nv 0 q + mMore h q s) ∧ ∃ u', u' ≤ B + 52 ∧ nBored h nv (jn q) (jn s) = jn u' := by
  have w1 := w.1
  obtain ⟨m, hm1, hm2, hm⟩ := w.2.2.2.2.1.2.1 s hs
  obtain ⟨c, _, hc2, hc⟩ := w.2.2.2.2.1.2.2.2 s hs
  have hsum : ∃ x, x ≤ 26 ∧ nMore h (jn s) = jn x ∧ mSum h s = jn x := by
    refine ⟨m + 2 * min 3 c, by omega, ?_, ?_⟩
    · unfold nMore jmin
      rw [rg_in (by omega) (by omega), rg_in (by omega) (by omega), hm, hc, show (2 : Int32) = jn 2 from rfl, show (3 : Int32) = jn 3 from rfl, jn_min 3 c (by omega) (by omega), jn_mul, jn_add]
    · unfold mSum
      rw [hm, hc]
      by_cases e : c < 3
      · rw [if_pos (show jn c < 3 from (jn_lt (k := c) (l := 3) (by omega) (by omega)).mpr e), show (2 : Int32) = jn 2 from rfl, jn_mul, jn_add, show min 3 c = c by omega]
      · rw [if_neg (show ¬ jn c < 3 from fun z => e ((jn_lt (k := c) (l := 3) (by omega) (by omega)).mp z)), show (2 : Int32) * 3 = jn 6 from rfl, jn_add, show 2 * min 3 c = 6 by omega]
  obtain ⟨x, hx1, hx2, hx3⟩ := hsum
  unfold nBored mMore
  rw [rg_in (by omega) (by omega), rg_in (by omega) (by omega), rg_in (by omega) (by omega), rg_in (by omega) (by omega), rg_in (by omega) (by omega), hu, hm, hx2, hx3]
  by_cases e : h 6 q = h 0 s
  · rw [if_pos e, if_pos e.symm, ← Int32.sub_eq_add_neg, show (2 : Int32) = jn 2 from rfl, jn_div (by omega) (by omega)]
    unfold jmax
    by_cases e2 : m / 2 ≤ u
    · rw [jn_sub e2, if_neg (jn_npos (by omega))]
      by_cases e3 : 0 < u - m / 2
      · rw [if_pos (show (0 : Int32) < jn (u - m / 2) from (jn_lt (k := 0) (by omega) (by omega)).mpr e3)]
        exact ⟨rfl, u - m / 2, by omega, rfl⟩
      · rw [if_neg (show ¬ (0 : Int32) < jn (u - m / 2) from fun z => e3 ((jn_lt (k := 0) (by omega) (by omega)).mp z)), show u - m / 2 = 0 by omega]
        exact ⟨rfl, 0, by omega, rfl⟩
    · have e3 := jn_sub_neg (a := u) (b := m / 2) (by omega) (by omega)
      rw [if_pos e3, if_neg (show ¬ (0 : Int32) < jn u - jn (m / 2) from fun z => absurd (Int32.lt_trans z e3) Int32.lt_irrefl)]
      exact ⟨rfl, 0, by omega, rfl⟩
  · rw [if_neg e, if_neg (show ¬ h 0 s = h 6 q from fun z => e z.symm)]
    by_cases e2 : h 5 q = 2
    · rw [if_pos e2, show (2 : Int32) = jn 2 from rfl, jn_mul, jn_add, if_neg (jn_npos (by omega))]
      exact ⟨rfl, _, by omega, rfl⟩
    · rw [if_neg e2, jn_add, if_neg (jn_npos (by omega))]
      exact ⟨rfl, _, by omega, rfl⟩
theorem gn_rg (w : hOk K a b l h) (r : RG b nv g) (i : NI b B y h nv) {x : Int32} (hx : x = -1 ∨ ∃ p, p ≤ b ∧ x = jn p) : rg 7 (nv 4) x = jb (mGn h g x) := by
  have w1 := w.1
  have e11 : jn b - 1 = jn (b - 1) := jn_sub (a := b) (b := 1) (by omega)
  have hn := fun s hs => (i.1 s hs).2.1
  rcases hx with rfl | ⟨p, hp, rfl⟩
  · rw [rg_neg (by decide), jb_f (fun z => absurd z.1.1 (by decide))]
  · by_cases e : p < b
    · have hl := rO_ln w e
      rw [rg_in (by omega) (by omega), i.2.1 p e]
      have e2 : mGn h g (jn p) ↔ ¬ nv 1 (ln h p) = 0 := by
        unfold mGn
        rw [jn_clamp (by omega), w.2.1.2.1, e11, RG_0 r hn hl.1]
        exact ⟨fun z => z.2, fun z => ⟨⟨jn_pos (by omega), (jn_le (by omega) (by omega)).mpr (by omega)⟩, z⟩⟩
      by_cases e3 : nv 1 (ln h p) = 0
      · rw [jb_f (fun z => z e3), jb_f (fun z => (e2.mp z) e3)]
      · rw [jb_t e3, jb_t (e2.mpr e3)]
    · have e2 : p = b := by omega
      subst e2
      have e3 : ¬ mGn h g (jn p) := fun z => by
        have := z.1.2
        rw [w.2.1.2.1, e11] at this
        have := (jn_le (by omega) (by omega)).mp this
        omega
      rw [jb_f e3]
      by_cases e4 : p < 7
      · rw [rg_in (by omega) e4, i.2.2.1 p (by omega) e4]
      · rw [rg_out (by omega) (by omega) (by omega)]
theorem same_watch {i k : Nat} (hk : k < b) (w1 : b ≤ 7) (r : RG b nv g) (n : NI b B y h nv) : RG b (nWatch1 (jn i) k nv) (mWatch1 i k g) ∧ NI b B y h (nWatch1 (jn i) k nv) := by
  have hn := fun s hs => (n.1 s hs).2.1
  have e1 := RG_0 r hn hk
  have e2 : g 2 k = nv 2 k := (r k hk).2.2.1
  have e3 : g 3 k = nv 3 k := (r k hk).2.2.2
  unfold nWatch1 mWatch1
  rw [rg_in (by omega) (by omega), rg_in (by omega) (by omega), rg_in (by omega) (by omega), rs_in (by omega) (by omega), e3]
  by_cases c : nv 1 k = 0 ∧ nv 2 k = 0
  · rw [if_pos c, if_pos ⟨e1.mpr c.1, by rw [e2]; exact c.2⟩]
    refine ⟨fun s hs => ?_, n⟩
    obtain ⟨q1, q2, q3, q4⟩ := r s hs
    rw [nset_ne (by decide), nset_ne (by decide), nset_ne (by decide), nset_ne (by decide), nset_ne (by decide), nset_ne (by decide), nset_at, nset_at]
    refine ⟨q1, q2, q3, ?_⟩
    unfold upd
    by_cases e : s = k
    · rw [if_pos e, if_pos e]
    · rw [if_neg e, if_neg e, q4]
  · rw [if_neg c, if_neg (fun z => c ⟨e1.mp z.1, by rw [← e2]; exact z.2⟩)]
    refine ⟨fun s hs => ?_, n⟩
    obtain ⟨q1, q2, q3, q4⟩ := r s hs
    rw [nset_ne (by decide), nset_ne (by decide), nset_ne (by decide), nset_at]
    refine ⟨q1, q2, q3, ?_⟩
    unfold upd
    by_cases e : s = k
    · rw [if_pos e, e]
      show nv 3 k ||| (0 : Int32) = nv 3 k
      exact Int32.or_zero
    · rw [if_neg e, q4]
theorem NI_le {B' : Nat} (hB : B ≤ B') (n : NI b B y h nv) : NI b B' y h nv := by
  refine ⟨fun s hs => ?_, n.2⟩
  obtain ⟨⟨u, h1, h2⟩, h3⟩ := n.1 s hs
  exact ⟨⟨u, by omega, h2⟩, h3⟩
theorem lf_congr {nv nv' : jH} (e : nv 1 = nv' 1) : lf nv = lf nv' := by
  unfold lf
  rw [e]
theorem nBore_f {x z : Int32} {f : Nat} (h0 : f ≠ 0) (h2 : f ≠ 2) : nBore h nv x z f = nv f := by
  unfold nBore
  by_cases e : rg 7 (h 5) x = 1
  · rw [if_pos e, nset_ne h2, nset_ne h0]
  · rw [if_neg e, nset_ne h0]
theorem same_step (w : hOk K a b l h) (hK : K ≤ 1000000) (hB : B ≤ 9000) {i k : Nat} (hi : i < l) (hk : k < b) (r : RG b nv g) (n : NI b B y h nv) : RG b (nStep1 h (jn i) k nv) (mStep1 h i k g) ∧ NI b (B + 52) y h (nStep1 h (jn i) k nv) := by
  have w1 := w.1
  obtain ⟨hq1, hq2⟩ := rO_ln w hk
  obtain ⟨hs1, hs2⟩ := rO_bl w hi
  have hn := fun s hs => (n.1 s hs).2.1
  unfold nStep1 mStep1
  generalize hq : ln h k = q at hq1 hq2 ⊢
  generalize bl h i = s at hs1 hs2 ⊢
  have e1 := RG_0 r hn hq1
  have r9 : rg 7 (h 9) (jn k) = jn q := by rw [rg_in (by omega) (show k < 7 by omega), hq2]
  have r4 : rg 7 (h 4) (jn i) = jn s := by rw [rg_in (by omega) (show i < 7 by omega), hs2]
  have rn : rg 7 (nv 4) (jn k) = jb (¬ nv 1 q = 0) := by rw [rg_in (by omega) (show k < 7 by omega), n.2.1 k hk, hq]
  simp only [r9, r4, rn]
  by_cases c : nv 1 q = 0
  · rw [if_pos (jb_f (fun z => z c)), if_pos (e1.mpr c)]
    obtain ⟨⟨u, hu1, hu2⟩, _, hsl, _⟩ := n.1 q hq1
    obtain ⟨be1, u', be2, be3⟩ := bored_eq w hK (show B ≤ 10000 by omega) hq1 hs1 hu2 hu1
    have eg1 : g 1 q = nv 0 q := (r q hq1).2.1
    -- what is bored
    have b0 : nBore h nv (jn q) (jn s) 0 = upd (nv 0) q (jn u') := by
      unfold nBore
      rw [be3, rs_in (by omega) (show q < 7 by omega)]
      by_cases e : rg 7 (h 5) (jn q) = 1
      · rw [if_pos e, nset_ne (by decide), nset_at]
      · rw [if_neg e, nset_at]
    have b2 : nBore h nv (jn q) (jn s) 2 = upd (nv 2) q (jb (h 5 q = 1 ∧ h 7 q < jn u')) := by
      unfold nBore
      rw [be3, rs_in (by omega) (show q < 7 by omega), rs_in (by omega) (show q < 7 by omega), rg_in (by omega) (show q < 7 by omega), rg_in (by omega) (show q < 7 by omega), rg_in (by omega) (show q < 7 by omega)]
      by_cases e : h 5 q = 1
      · rw [if_pos e, nset_at]
        have e2 : upd (nv 0) q (jn u') q = jn u' := if_pos rfl
        rw [e2]
        congr 1
        by_cases e3 : h 7 q < jn u'
        · rw [jb_t e3, jb_t ⟨e, e3⟩]
        · rw [jb_f e3, jb_f (fun z => e3 z.2)]
      · rw [if_neg e, nset_ne (by decide), jb_f (fun z => e z.1)]
        funext t
        unfold upd
        by_cases e2 : t = q
        · rw [if_pos e2, e2]
          exact hsl.resolve_right (fun z => e z.2)
        · rw [if_neg e2]
    have b1 : nBore h nv (jn q) (jn s) 1 = nv 1 := nBore_f (by decide) (by decide)
    have b3 : nBore h nv (jn q) (jn s) 3 = nv 3 := nBore_f (by decide) (by decide)
    have b4 : nBore h nv (jn q) (jn s) 4 = nv 4 := nBore_f (by decide) (by decide)
    have b5 : nBore h nv (jn q) (jn s) 5 = nv 5 := nBore_f (by decide) (by decide)
    have m1 : mBore h q s g 1 = upd (g 1) q (jn u') := by
      unfold mBore
      rw [nset_at, eg1, ← be1, be3]
    have m0 : mBore h q s g 0 = g 0 := nset_ne (by decide)
    have m2 : mBore h q s g 2 = g 2 := nset_ne (by decide)
    have m3 : mBore h q s g 3 = g 3 := nset_ne (by decide)
    have mq : mBore h q s g 1 q = jn u' := by rw [m1]; exact if_pos rfl
    -- who is driven out
    have eout : nOut h (nBore h nv (jn q) (jn s)) (jn k) ↔ mCan h q ∧ (if mLeft h (mBore h q s g) k q < 0 then 0 else mLeft h (mBore h q s g) k q) < jn u' := by
      have g1 := gn_rg w r n (x := jn k - 1) (by
        by_cases e : k = 0
        · left; rw [e]; rfl
        · right; exact ⟨k - 1, by omega, jn_sub (a := k) (b := 1) (by omega)⟩)
      have g2 := gn_rg w r n (x := jn k + 1) (Or.inr ⟨k + 1, by omega, jn_1 k⟩)
      have ek : (¬ h 5 q = 1 ∧ ¬ h 5 q = 3) ↔ mCan h q := by
        obtain ⟨κ, _, hκ, eκ⟩ := w.2.2.2.2.2.1 q hq1
        unfold mCan
        rw [eκ]
        rcases (show κ = 0 ∨ κ = 1 ∨ κ = 2 ∨ κ = 3 by omega) with rfl | rfl | rfl | rfl
        · exact ⟨fun _ => Or.inl rfl, fun _ => by decide⟩
        · exact ⟨fun z => absurd rfl z.1, fun z => by rcases z with z | z <;> exact absurd z (by decide)⟩
        · exact ⟨fun _ => Or.inr rfl, fun _ => by decide⟩
        · exact ⟨fun z => absurd rfl z.2, fun z => by rcases z with z | z <;> exact absurd z (by decide)⟩
      have emg : ∀ x, mGn h (mBore h q s g) x ↔ mGn h g x := fun x => by unfold mGn; rw [m0]
      have el : h 7 q - 3 * (jb (mGn h g (jn k - 1)) + jb (mGn h g (jn k + 1))) = mLeft h (mBore h q s g) k q := by
        unfold mLeft
        by_cases c1 : mGn h g (jn k - 1)
        · rw [jb_t c1, if_pos ((emg _).mpr c1)]
          by_cases c2 : mGn h g (jn k + 1)
          · rw [jb_t c2, if_pos ((emg _).mpr c2), Int32.sub_eq_add_neg, Int32.sub_eq_add_neg, Int32.sub_eq_add_neg, Int32.add_assoc]
            rfl
          · rw [jb_f c2, if_neg (fun z => c2 ((emg _).mp z)), Int32.sub_eq_add_neg, Int32.sub_eq_add_neg, Int32.sub_eq_add_neg, Int32.add_assoc]
            rfl
        · rw [jb_f c1, if_neg (fun z => c1 ((emg _).mp z))]
          by_cases c2 : mGn h g (jn k + 1)
          · rw [jb_t c2, if_pos ((emg _).mpr c2), Int32.sub_eq_add_neg, Int32.sub_eq_add_neg, Int32.sub_eq_add_neg, Int32.add_assoc]
            rfl
          · rw [jb_f c2, if_neg (fun z => c2 ((emg _).mp z)), Int32.sub_eq_add_neg, Int32.sub_eq_add_neg, Int32.sub_eq_add_neg, Int32.add_assoc]
            rfl
      unfold nOut
      rw [b4, b0, g1, g2, rg_in (by omega) (show k < 7 by omega), hq2, rg_in (by omega) (show q < 7 by omega), rg_in (by omega) (show q < 7 by omega), rg_in (by omega) (show q < 7 by omega), el, ek, show upd (nv 0) q (jn u') q = jn u' from if_pos rfl]
      have ej : jmax 0 (mLeft h (mBore h q s g) k q) = if mLeft h (mBore h q s g) k q < 0 then 0 else mLeft h (mBore h q s g) k q := by
        generalize mLeft h (mBore h q s g) k q = t
        unfold jmax
        by_cases c1 : t < 0
        · rw [if_pos c1, if_neg (fun z => absurd (Int32.lt_trans z c1) Int32.lt_irrefl)]
        · rw [if_neg c1]
          by_cases c2 : 0 < t
          · rw [if_pos c2]
          · rw [if_neg c2]
            exact Int32.le_antisymm (Int32.not_lt.mp c1) (Int32.not_lt.mp c2)
      rw [ej]
    have m12 : ∀ t, t = q ∨ t ≠ q := fun t => Classical.em _
    have esl : nBore h nv (jn q) (jn s) 2 = upd (nv 2) q (jb (h 5 q = 1 ∧ h 7 q < mBore h q s g 1 q)) := by rw [b2, mq]
    by_cases co : nOut h (nBore h nv (jn q) (jn s)) (jn k)
    · rw [if_pos co]
      have co2 := eout.mp co
      have m4 : mSettle1 h (mBore h q s g) k i q = nset (mBore h q s g) 0 (upd (g 0) q (jn (i + 1))) := by
        unfold mSettle1
        rw [mq, if_pos co2, m0, jn_1]
      have l1 : nLeave h (nBore h nv (jn q) (jn s)) (jn k) (jn i) 1 = upd (nv 1) q (jn (i + 1)) := by
        unfold nLeave
        rw [nset_ne (by decide), nset_ne (by decide), nset_at, b1, rg_in (by omega) (show k < 7 by omega), hq2, jn_1, rs_in (by omega) (show q < 7 by omega)]
      have l4 : nLeave h (nBore h nv (jn q) (jn s)) (jn k) (jn i) 4 = upd (nv 4) k 1 := by
        unfold nLeave
        rw [nset_ne (by decide), nset_at, b4, rs_in (by omega) (show k < 7 by omega)]
      have l5 : nLeave h (nBore h nv (jn q) (jn s)) (jn k) (jn i) 5 0 = nv 5 0 + 1 := by
        unfold nLeave
        rw [nset_at, b5]
      have lo : ∀ f, f = 0 ∨ f = 2 ∨ f = 3 → nLeave h (nBore h nv (jn q) (jn s)) (jn k) (jn i) f = nBore h nv (jn q) (jn s) f := fun f hf => by
        unfold nLeave
        rw [nset_ne (by omega), nset_ne (by omega), nset_ne (by omega)]
      refine ⟨fun t ht => ?_, fun t ht => ?_, fun p hp => ?_, fun p hp1 hp2 => ?_, ?_⟩
      · obtain ⟨q1, q2, q3, q4⟩ := r t ht
        have ms0 : mSettle h (mBore h q s g) k i q 0 = upd (g 0) q (jn (i + 1)) := by
          unfold mSettle
          rw [nset_ne (by decide), m4, nset_at]
        have ms1 : mSettle h (mBore h q s g) k i q 1 = upd (g 1) q (jn u') := by
          unfold mSettle
          rw [nset_ne (by decide), m4, nset_ne (by decide), m1]
        have ms2 : mSettle h (mBore h q s g) k i q 2 = upd (g 2) q (jb (h 5 q = 1 ∧ h 7 q < jn u')) := by
          unfold mSettle
          rw [nset_at, m4, nset_ne (by decide), m2, mq]
        have ms3 : mSettle h (mBore h q s g) k i q 3 = g 3 := by
          unfold mSettle
          rw [nset_ne (by decide), m4, nset_ne (by decide), m3]
        rw [ms0, ms1, ms2, ms3, l1, lo 0 (by omega), lo 2 (by omega), lo 3 (by omega), b0, b3, b2]
        unfold upd
        by_cases et : t = q
        · subst et
          rw [if_pos rfl, if_pos rfl, if_pos rfl, if_pos rfl, if_pos rfl, if_pos rfl, if_neg (fun z => by have := jn_inj (a := i + 1) (b := 0) (by omega) (by omega) z; omega)]
          exact ⟨rfl, rfl, rfl, q4⟩
        · rw [if_neg et, if_neg et, if_neg et, if_neg et, if_neg et, if_neg et]
          exact ⟨q1, q2, q3, q4⟩
      · rw [l1, lo 0 (by omega), lo 2 (by omega), b0, b2]
        obtain ⟨⟨v0, p1, p2⟩, p3, p4, p5⟩ := n.1 t ht
        unfold upd
        by_cases et : t = q
        · rw [if_pos et, if_pos et, if_pos et]
          refine ⟨⟨u', be2, rfl⟩, ⟨i + 1, by omega, rfl⟩, ?_, fun z => ?_⟩
          · by_cases e5 : h 5 q = 1 ∧ h 7 q < jn u'
            · exact Or.inr ⟨jb_t e5, by rw [et]; exact e5.1⟩
            · exact Or.inl (jb_f e5)
          · rw [et] at z
            have := co2.1
            unfold mCan at this
            rw [z] at this
            rcases this with z2 | z2 <;> exact absurd z2 (by decide)
        · rw [if_neg et, if_neg et, if_neg et]
          exact ⟨⟨v0, by omega, p2⟩, p3, p4, p5⟩
      · rw [l1, l4]
        unfold upd
        by_cases ep : p = k
        · rw [if_pos ep, ep, if_pos hq, jb_t (p := ¬ jn (i + 1) = 0) (fun z => by have := jn_inj (a := i + 1) (b := 0) (by omega) (by omega) z; omega)]
        · rw [if_neg ep, if_neg (fun z => ep (by
            have h3 := (rO_ln w hp).2
            rw [z, ← hq2] at h3
            exact w.2.2.2.1.2 p k hp hk h3))]
          exact n.2.1 p hp
      · rw [l4]
        unfold upd
        rw [if_neg (by omega)]
        exact n.2.2.1 p hp1 hp2
      · rw [l5, n.2.2.2, jn_1]
        congr 1
        have es := sumF_one (F := lf nv) (G := lf (nLeave h (nBore h nv (jn q) (jn s)) (jn k) (jn i))) (q := q) b hq1 (fun t _ et => by
          unfold lf
          rw [l1]
          unfold upd
          rw [if_neg et])
        have e5 : lf nv q = 0 := if_pos c
        have e6 : lf (nLeave h (nBore h nv (jn q) (jn s)) (jn k) (jn i)) q = 1 := by
          unfold lf
          rw [l1]
          refine if_neg (fun z => ?_)
          rw [show upd (nv 1) q (jn (i + 1)) q = jn (i + 1) from if_pos rfl] at z
          have := jn_inj (a := i + 1) (b := 0) (by omega) (by omega) z
          omega
        omega
    · rw [if_neg co]
      have co2 : ¬ (mCan h q ∧ (if mLeft h (mBore h q s g) k q < 0 then 0 else mLeft h (mBore h q s g) k q) < mBore h q s g 1 q) := fun z => co (eout.mpr (by rw [← mq]; exact z))
      have m4 : mSettle1 h (mBore h q s g) k i q = mBore h q s g := if_neg co2
      refine ⟨fun t ht => ?_, fun t ht => ?_, fun p hp => ?_, fun p hp1 hp2 => ?_, ?_⟩
      · obtain ⟨q1, q2, q3, q4⟩ := r t ht
        have ms0 : mSettle h (mBore h q s g) k i q 0 = g 0 := by
          unfold mSettle
          rw [nset_ne (by decide), m4, m0]
        have ms1 : mSettle h (mBore h q s g) k i q 1 = upd (g 1) q (jn u') := by
          unfold mSettle
          rw [nset_ne (by decide), m4, m1]
        have ms2 : mSettle h (mBore h q s g) k i q 2 = upd (g 2) q (jb (h 5 q = 1 ∧ h 7 q < jn u')) := by
          unfold mSettle
          rw [nset_at, m4, m2, mq]
        have ms3 : mSettle h (mBore h q s g) k i q 3 = g 3 := by
          unfold mSettle
          rw [nset_ne (by decide), m4, m3]
        rw [ms0, ms1, ms2, ms3, b1, b0, b3, b2]
        unfold upd
        by_cases et : t = q
        · subst et
          rw [if_pos rfl, if_pos rfl, if_pos rfl, if_pos rfl]
          exact ⟨q1, rfl, rfl, q4⟩
        · rw [if_neg et, if_neg et, if_neg et, if_neg et]
          exact ⟨q1, q2, q3, q4⟩
      · rw [b0, b1, b2]
        obtain ⟨⟨v0, p1, p2⟩, p3, p4, p5⟩ := n.1 t ht
        unfold upd
        by_cases et : t = q
        · rw [if_pos et, if_pos et]
          refine ⟨⟨u', be2, rfl⟩, p3, ?_, p5⟩
          by_cases e5 : h 5 q = 1 ∧ h 7 q < jn u'
          · exact Or.inr ⟨jb_t e5, by rw [et]; exact e5.1⟩
          · exact Or.inl (jb_f e5)
        · rw [if_neg et, if_neg et]
          exact ⟨⟨v0, by omega, p2⟩, p3, p4, p5⟩
      · rw [b1, b4]; exact n.2.1 p hp
      · rw [b4]; exact n.2.2.1 p hp1 hp2
      · rw [b5, lf_congr b1]; exact n.2.2.2
  · rw [if_neg (fun z => absurd ((jb_0 _).mp z) (fun z2 => z2 c)), if_neg (fun z => c (e1.mp z))]
    exact ⟨r, NI_le (by omega) n⟩
end JSM
