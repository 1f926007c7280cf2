/-! the reference: a night played -/
def tireR (r4 : Nat → Int32) (m k : Nat) (r : Nat → Int32) : Nat → Int32 := jfor (fun k r => rs 7 r (rg 7 r4 (jn k)) (rg 7 r (rg 7 r4 (jn k)) + 1)) m k r
section JRQ
variable {d n K a b l f : Nat} {v : Option jV} {σ' : jS} {M : jM} {x y z : Int32} {h g nv : jH} {c : Nat → Int32}
theorem hTireL : ∀ (m k : Nat) (X : jH), jfor hTire1 m k X = nset X 3 (tireR (X 4) m k (X 3))
  | 0, k, X => by
    funext f
    unfold nset
    by_cases e : f = 3
    · rw [if_pos e, e]; rfl
    · rw [if_neg e]; rfl
  | m + 1, k, X => by
    rw [jfor, hTireL m (k + 1) (hTire1 k X)]
    have e1 : hTire1 k X 4 = X 4 := nset_ne (by decide)
    have e2 : hTire1 k X 3 = rs 7 (X 3) (rg 7 (X 4) (jn k)) (rg 7 (X 3) (rg 7 (X 4) (jn k)) + 1) := nset_at _ _ _
    rw [e1, e2]
    funext f
    unfold nset hTire1
    by_cases e : f = 3
    · rw [if_pos e, if_pos e]; rfl
    · rw [if_neg e, if_neg e, nset_ne e]
theorem hTire_3 (X : jH) : hTire X 3 = tireR (X 4) (hB X) 0 (X 3) := by
  unfold hTire
  rw [hTireL, nset_at]
theorem hTire_f {X : jH} {f : Nat} (e : f ≠ 3) : hTire X f = X f := by
  unfold hTire
  rw [hTireL, nset_ne e]
theorem hClq_E {h' : jH} (e5 : h' 5 = h 5) (e : h' 10 11 = h 10 11) : hClq h' = hClq h := by
  unfold hClq hS
  rw [e5, e]
theorem hClq_sum (w : hOk K a b l h) : hClq h = jn (sumF (fun s => if h 5 s = 3 then 1 else 0) b) := by
  have w1 := w.1
  unfold hClq
  rw [hOk_S w]
  have a1 := jfor_two (R := fun k x (_ : Unit) => x = jn (sumF (fun s => if h 5 s = 3 then 1 else 0) k)) (f := fun k c => if rg 7 (h 5) (jn k) = 3 then c + 1 else c) (f' := fun _ u => u) b 0 0 () (fun j x _ h1 h2 z => by
    show (if rg 7 (h 5) (jn j) = 3 then x + 1 else x) = _
    rw [sumF, rg_in (by omega) (by omega)]
    by_cases e : h 5 j = 3
    · rw [if_pos e, if_pos e, z, jn_1]
    · rw [if_neg e, if_neg e, z, Nat.add_zero]) rfl
  rw [Nat.zero_add] at a1
  exact a1
def mPay (h g : jH) (b : Nat) : Nat := sumF (fun s => if g 0 s = -4 ∧ ¬ h 5 s = 3 then 1 else 0) b
theorem pay_sum (r : RG b nv g) (n : NI b 4000 0 h nv) : mPay h g b + sumF (fun s => if h 5 s = 3 then 1 else 0) b + sumF (lf nv) b = b := by
  unfold mPay
  rw [← sumF_add, ← sumF_add, sumF_congr (G := fun _ => 1) b (fun s hs => by
    have hn := fun s hs => (n.1 s hs).2.1
    have e0 := RG_0 r hn hs
    have e3 := (n.1 s hs).2.2.2
    unfold lf
    by_cases e : nv 1 s = 0
    · by_cases e5 : h 5 s = 3
      · rw [if_neg (fun z => z.2 e5), if_pos e5, if_pos e]
      · rw [if_pos ⟨e0.mpr e, e5⟩, if_neg e5, if_pos e]
    · have e5 : ¬ h 5 s = 3 := fun z => by
        rcases e3 z with q | q
        · exact e q
        · exact bit_0 s q
      rw [if_neg (fun z => e (e0.mp z.1)), if_neg e5, if_neg e])]
  have : ∀ n, sumF (fun _ => 1) n = n := fun n => by
    induction n with
    | zero => rfl
    | succ n ih => rw [sumF, ih]
  exact this b
/-- what a night leaves in the till -/
theorem same_till (w : hOk K a b l h) (hK : K ≤ 1000000) (t : Int32) : t - hClq h + jn (mPay h (mGo h b l 0) b) = t - hClq h + (h 10 11 - hClq h - nUnfold h 0 5 0) := by
  obtain ⟨r, n⟩ := same_go (y := 0) w hK
  have e := pay_sum r n
  rw [n.2.2.2, w.2.1.2.1, hClq_sum w, jn_sub (by omega), jn_sub (by omega)]
  congr 2
  omega
theorem r158_till (hs : rS a b M h) (w : hOk K a b l h) (hf : f = 55 ∨ f = 60) (hc : ∀ s, s < b → c (11 + s) = h 5 s) {a2 : Option jV} : ∀ (m k : Nat) (q : Nat), k + m = b → q = sumF (fun s => if g 0 s = -4 ∧ ¬ h 5 s = 3 then 1 else 0) k → (jE d 158 29 [some (.inr (.inr (some (11, (0, 0))))), some (.inr (.inr (some (12, (f, 0))))), a2, some (.inl (x + jn q)), some (.inl (jn k))] [] (n, ([], sG (mC M (f, 0) c) g)) v σ' ↔ jE d 158 77 [some (.inr (.inr (some (11, (0, 0))))), some (.inr (.inr (some (12, (f, 0))))), a2, some (.inl (x + jn (mPay h g b))), some (.inl (jn b))] [] (n, ([], sG (mC M (f, 0) c) g)) v σ') := by
  have w1 := w.1
  have hL : jLen 12 (f, 0) = 39 := by rcases hf with rfl | rfl <;> rfl
  have hr := sG_r (mC M (f, 0) c) g (f := f) (by omega)
  have hs2 := rS_sG g (rS_mC (c := c) hf hs)
  intro m
  induction m with
  | zero =>
    intro k q hk hq
    simp only [s158_29, s158_31, s158_32, s158_35, s158_36, s158_37, jm_46, jk0, ji0 (show 0 < 2 by decide), hs2.1.2]
    rw [if_pos ((jn_le (by omega) (by omega)).mpr (by omega)), hq, show k = b by omega]
    rfl
  | succ m ih =>
    intro k q hk hq
    simp only [s158_29, s158_31, s158_32, s158_35, s158_36, s158_37, jm_46, jk0, ji0 (show 0 < 2 by decide), hs2.1.2]
    rw [if_neg (fun z => absurd ((jn_le (by omega) (by omega)).mp z) (by omega))]
    simp (disch := omega) only [s158_40, s158_41, s158_42, s158_45, s158_47, s158_48, s158_50, s158_53, s158_54, s158_56, s158_58, s158_59, s158_60, s158_61, s158_64, s158_65, s158_68, s158_69, s158_70, s158_71, jm_61, hL, hr, mC_at, jnA11, jiz, jcl, sG_0, hc k (by omega), jifN]
    rw [s158_74, s158_74, jn_1]
    have e : sumF (fun s => if g 0 s = -4 ∧ ¬ h 5 s = 3 then 1 else 0) (k + 1) = q + if g 0 k = -4 ∧ ¬ h 5 k = 3 then 1 else 0 := by rw [sumF, ← hq]
    by_cases h1 : g 0 k = -4
    · rw [if_pos h1]
      by_cases h2 : h 5 k = 3
      · rw [if_pos h2, Int32.add_zero]
        rw [if_neg (fun z => z.2 h2)] at e
        exact ih (k + 1) q (by omega) (by omega)
      · rw [if_neg h2, Int32.add_assoc, jn_1]
        rw [if_pos ⟨h1, h2⟩] at e
        exact ih (k + 1) (q + 1) (by omega) (by omega)
    · rw [if_neg h1, Int32.add_zero]
      rw [if_neg (fun z => h1 z.1)] at e
      exact ih (k + 1) q (by omega) (by omega)
def mT1 (h : jH) (i : Nat) (c : Nat → Int32) : Nat → Int32 := upd c (32 + bl h i) (c (32 + bl h i) + 1)
theorem r158_tire (w : hOk K a b l h) (hf : f = 55 ∨ f = 60) {a2 a3 : Option jV} : ∀ (m k : Nat) (c : Nat → Int32), k + m = l → c 7 = jn l → (∀ i, i < l → c i = h 4 i) → (jE d 158 98 [some (.inr (.inr (some (11, (0, 0))))), some (.inr (.inr (some (12, (f, 0))))), a2, a3, some (.inl (jn k))] [] (n, ([], sG (mC M (f, 0) c) g)) v σ' ↔ jE d 158 128 [some (.inr (.inr (some (11, (0, 0))))), some (.inr (.inr (some (12, (f, 0))))), a2, a3, some (.inl (jn l))] [] (n, ([], sG (mC M (f, 0) (jfor (mT1 h) m k c)) g)) v σ') := by
  have w1 := w.1
  have hL : jLen 12 (f, 0) = 39 := by rcases hf with rfl | rfl <;> rfl
  intro m
  induction m with
  | zero =>
    intro k c hk h7 hc
    have hr := sG_r (mC M (f, 0) c) g (f := f) (by omega)
    simp only [s158_98, s158_100, s158_101, s158_103, s158_104, hL, jk7, ji7 (show 7 < 39 by decide), hr, mC_at, h7]
    rw [if_pos ((jn_le (by omega) (by omega)).mpr (by omega)), show k = l by omega]
    rfl
  | succ m ih =>
    intro k c hk h7 hc
    have hr := sG_r (mC M (f, 0) c) g (f := f) (by omega)
    obtain ⟨hb1, hb2⟩ := rO_bl w (show k < l by omega)
    simp only [s158_98, s158_100, s158_101, s158_103, s158_104, hL, jk7, ji7 (show 7 < 39 by decide), hr, mC_at, h7]
    rw [if_neg (fun z => absurd ((jn_le (by omega) (by omega)).mp z) (by omega))]
    have up : ∀ x, mC (sG (mC M (f, 0) c) g) (f, 0) (upd c (32 + bl h k) x) = sG (mC M (f, 0) (upd c (32 + bl h k) x)) g := fun x => by rw [mC_sG hf, mC_mC]
    simp (disch := omega) only [s158_107, s158_108, s158_110, s158_111, s158_112, s158_114, s158_115, s158_116, s158_117, s158_118, s158_119, s158_120, s158_121, s158_122, hL, hr, mC_at, jnA0, jnA32, jiz, jcl, hc k (by omega), hb2, mC_up, up]
    rw [s158_125, jn_1, jfor]
    refine ih (k + 1) _ (by omega) ?_ (fun i hi => ?_)
    · exact (if_neg (by omega)).trans h7
    · exact (if_neg (by omega)).trans (hc i hi)
theorem same_tire (w : hOk K a b l h) {X : jH} (r : rD a b l c X) (e4 : X 4 = h 4) (eB : hB X = l) : rD a b l (jfor (mT1 h) l 0 c) (hTire X) := by
  have w1 := w.1
  unfold hTire
  rw [eB]
  exact (jfor_two (R := fun k (X' : jH) (c' : Nat → Int32) => rD a b l c' X' ∧ X' 4 = h 4) (f := hTire1) (f' := mT1 h) l 0 X c (fun j X' c' _ hj z => by
    obtain ⟨hb1, hb2⟩ := rO_bl w (show j < l by omega)
    refine ⟨?_, (nset_ne (by decide)).trans z.2⟩
    unfold hTire1 mT1
    rw [z.2, rg_in (by omega) (show j < 7 by omega), hb2, rg_in (by omega) (show bl h j < 7 by omega), rs_in (by omega) (show bl h j < 7 by omega), z.1.2.2.2 _ hb1]
    exact rD_3 (by omega) (by omega) z.1 hb1) ⟨r, e4⟩).1
theorem hSettle1_f {f : Nat} (h8 : f ≠ 8) (h10 : f ≠ 10) (w : hOk K a b l h) : hSettle1 nv h f = h f := by
  unfold hSettle1
  by_cases e : nCarry h nv
  · rw [if_pos e, hSc_f h10]
    exact (same_bind (c := fun k => if k < 7 then h 4 k else if k = 7 then h 10 12 else if k = 8 then h 10 13 else if k = 9 then h 10 14 else if k = 10 then h 10 15 else if k < 18 then h 5 (k - 11) else if k < 25 then h 9 (k - 18) else if k < 32 then h 8 (k - 25) else h 3 (k - 32)) (g := fun _ s => nv 3 s) w (fun _ _ => rfl) (by
      have w1 := w.1
      refine ⟨fun i hi => if_pos (by omega), ⟨rfl, rfl, rfl, rfl⟩, fun s hs => ⟨?_, ?_, ?_⟩, fun s hs => ?_⟩
      · simp only []
        rw [if_neg (by omega), if_neg (by omega), if_neg (by omega), if_neg (by omega), if_neg (by omega), if_pos (by omega)]
        congr 1; omega
      · simp only []
        rw [if_neg (by omega), if_neg (by omega), if_neg (by omega), if_neg (by omega), if_neg (by omega), if_neg (by omega), if_pos (by omega)]
        congr 1; omega
      · simp only []
        rw [if_neg (by omega), if_neg (by omega), if_neg (by omega), if_neg (by omega), if_neg (by omega), if_neg (by omega), if_neg (by omega), if_pos (by omega)]
        congr 1; omega
      · simp only []
        rw [if_neg (by omega), if_neg (by omega), if_neg (by omega), if_neg (by omega), if_neg (by omega), if_neg (by omega), if_neg (by omega), if_neg (by omega)]
        congr 1; omega)).2 f h8
  · rw [if_neg e]
theorem hBindAll_f {seen : Nat → Int32} {f : Nat} (h8 : f ≠ 8) : hBindAll seen h f = h f := by
  unfold hBindAll
  have e1 : ∀ (p kd cl : Int32) (m k : Nat) (X : jH), jfor (hBA1 seen p kd cl) m k X f = X f := by
    intro p kd cl m
    induction m with
    | zero => intro k X; rfl
    | succ m ih =>
      intro k X
      rw [jfor, ih]
      unfold hBA1
      by_cases e : rg 7 seen (jn k) >>> (p &&& 31) &&& 1 = 0
      · rw [if_pos e]
      · rw [if_neg e, hBind_f h8]
  have e2 : ∀ (m k : Nat) (X : jH), jfor (hBA2 seen (hS h)) m k X f = X f := by
    intro m
    induction m with
    | zero => intro k X; rfl
    | succ m ih =>
      intro k X
      rw [jfor, ih]
      exact e1 _ _ _ _ _ _
  exact e2 _ _ _
end JRQ
