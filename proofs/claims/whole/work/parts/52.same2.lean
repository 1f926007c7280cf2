/-! a night here and there: scene by scene -/
theorem and1 (x : Int32) : x &&& 1 = 0 ∨ x &&& 1 = 1 := by
  have h1 : (x &&& 1).toBitVec.toNat ≤ 1 := by
    rw [Int32.toBitVec_and, BitVec.toNat_and]
    exact Nat.and_le_right
  rcases (show (x &&& 1).toBitVec.toNat = 0 ∨ (x &&& 1).toBitVec.toNat = 1 by omega) with h | h
  · left
    apply Int32.toBitVec_inj.mp
    exact BitVec.eq_of_toNat_eq h
  · right
    apply Int32.toBitVec_inj.mp
    exact BitVec.eq_of_toNat_eq h
theorem and1' (x : Int32) : x &&& 1 = 1 ↔ ¬ x &&& 1 = 0 := by
  rcases and1 x with h | h
  · rw [h]; exact ⟨fun z => absurd z (by decide), fun z => absurd rfl z⟩
  · rw [h]; exact ⟨fun _ => by decide, fun _ => rfl⟩
abbrev bit (y : Int32) (q : Nat) : Prop := ¬ y >>> (jn q &&& 31) &&& 1 = 0
theorem bit_0 (q : Nat) : ¬ bit 0 q := by
  intro z
  apply z
  have : (0 : Int32) >>> (jn q &&& 31) = 0 := by
    apply Int32.toBitVec_inj.mp
    rw [Int32.toBitVec_shiftRight]
    simp
  rw [this]
  decide
theorem jfor_two {α β : Type} {R : Nat → α → β → Prop} {f : Nat → α → α} {f' : Nat → β → β} : ∀ (m k : Nat) (x : α) (y : β), (∀ j x y, k ≤ j → j < k + m → R j x y → R (j + 1) (f j x) (f' j y)) → R k x y → R (k + m) (jfor f m k x) (jfor f' m k y)
  | 0, _, _, _, _, h => h
  | m + 1, k, x, y, hf, h => by
    have := jfor_two (R := R) m (k + 1) (f k x) (f' k y) (fun j x y h1 h2 => hf j x y (by omega) (by omega)) (hf k x y (by omega) (by omega) h)
    rw [show k + 1 + m = k + (m + 1) by omega] at this
    exact this
theorem jfor_id {α : Type} {f : Nat → α → α} : ∀ (m k : Nat) (x : α), (∀ j x, f j x = x) → jfor f m k x = x
  | 0, _, _, _ => rfl
  | m + 1, k, x, h => by rw [jfor, h, jfor_id m (k + 1) x h]
theorem jfor_add {α : Type} {f : Nat → α → α} : ∀ (m m' k : Nat) (x : α), jfor f (m + m') k x = jfor f m' (k + m) (jfor f m k x)
  | 0, m', k, x => by rw [Nat.zero_add]; rfl
  | m + 1, m', k, x => by
    rw [show m + 1 + m' = (m + m') + 1 by omega, jfor, jfor_add m m' (k + 1) (f k x), show k + 1 + m = k + (m + 1) by omega]
    rfl
section JSC
variable {K a b l B : Nat} {y : Int32} {h g nv : jH}
/-- who coughs: place by place -/
def CI (b : Nat) (y : Int32) (h nv0 : jH) (k : Nat) (nv : jH) : Prop :=
  (nv 0 = nv0 0 ∧ nv 2 = nv0 2 ∧ nv 3 = nv0 3) ∧ (∀ p, p < b → nv 1 (ln h p) = if p < k ∧ bit y (ln h p) then 1 else 0) ∧ (∀ p, p < 7 → nv 4 p = if p < b ∧ p < k ∧ bit y (ln h p) then 1 else 0) ∧ nv 5 0 = jn (sumF (lf nv) b)
theorem ln_inj (w : hOk K a b l h) {p k : Nat} (hp : p < b) (hk : k < b) (e : ln h p = ln h k) : p = k := by
  have h1 := (rO_ln w hp).2
  have h2 := (rO_ln w hk).2
  rw [e, ← h2] at h1
  exact w.2.2.2.1.2 p k hp hk h1
theorem ln_all (w : hOk K a b l h) {s : Nat} (hs : s < b) : ∃ p, p < b ∧ ln h p = s := by
  have w1 := w.1
  obtain ⟨p, hp, e⟩ := cIn_all (by omega) w.2.2.2.1 hs
  refine ⟨p, hp, ?_⟩
  unfold ln
  rw [e, jn_clamp (by omega)]
theorem CI_step (w : hOk K a b l h) {nv0 : jH} {k : Nat} (hk : k < b) (c : CI b y h nv0 k nv) : CI b y h nv0 (k + 1) (nCough1 h 0 y k nv) := by
  have w1 := w.1
  obtain ⟨hq1, hq2⟩ := rO_ln w hk
  obtain ⟨c1, c2, c3, c4⟩ := c
  unfold nCough1
  rw [rg_in (by omega) (show k < 7 by omega), hq2]
  by_cases e : y >>> (jn (ln h k) &&& 31) &&& 1 = 0
  · rw [if_pos e]
    refine ⟨c1, fun p hp => ?_, fun p hp => ?_, c4⟩
    · rw [c2 p hp]
      by_cases ep : p = k
      · subst ep
        rw [if_neg (fun z => z.2 e), if_neg (fun z => z.2 e)]
      · by_cases e2 : p < k ∧ bit y (ln h p)
        · rw [if_pos e2, if_pos ⟨by omega, e2.2⟩]
        · rw [if_neg e2, if_neg (fun z => e2 ⟨by omega, z.2⟩)]
    · rw [c3 p hp]
      by_cases ep : p = k
      · subst ep
        rw [if_neg (fun z => z.2.2 e), if_neg (fun z => z.2.2 e)]
      · by_cases e2 : p < b ∧ p < k ∧ bit y (ln h p)
        · rw [if_pos e2, if_pos ⟨e2.1, by omega, e2.2.2⟩]
        · rw [if_neg e2, if_neg (fun z => e2 ⟨z.1, by omega, z.2.2⟩)]
  · rw [if_neg e]
    have l1 : nLeave h nv (jn k) 0 1 = upd (nv 1) (ln h k) 1 := by
      unfold nLeave
      rw [nset_ne (by decide), nset_ne (by decide), nset_at, rg_in (by omega) (show k < 7 by omega), hq2, rs_in (by omega) (show ln h k < 7 by omega)]
      rfl
    have l4 : nLeave h nv (jn k) 0 4 = upd (nv 4) k 1 := by
      unfold nLeave
      rw [nset_ne (by decide), nset_at, rs_in (by omega) (show k < 7 by omega)]
    have l5 : nLeave h nv (jn k) 0 5 0 = nv 5 0 + 1 := by
      unfold nLeave
      rw [nset_at]
    have lo : ∀ f, f = 0 ∨ f = 2 ∨ f = 3 → nLeave h nv (jn k) 0 f = nv f := fun f hf => by
      unfold nLeave
      rw [nset_ne (by omega), nset_ne (by omega), nset_ne (by omega)]
    refine ⟨⟨by rw [lo 0 (by omega)]; exact c1.1, by rw [lo 2 (by omega)]; exact c1.2.1, by rw [lo 3 (by omega)]; exact c1.2.2⟩, fun p hp => ?_, fun p hp => ?_, ?_⟩
    · rw [l1]
      unfold upd
      by_cases ep : p = k
      · subst ep
        rw [if_pos rfl, if_pos ⟨by omega, e⟩]
      · rw [if_neg (fun z => ep (ln_inj w hp hk z)), c2 p hp]
        by_cases e2 : p < k ∧ bit y (ln h p)
        · rw [if_pos e2, if_pos ⟨by omega, e2.2⟩]
        · rw [if_neg e2, if_neg (fun z => e2 ⟨by omega, z.2⟩)]
    · rw [l4]
      unfold upd
      by_cases ep : p = k
      · subst ep
        rw [if_pos rfl, if_pos ⟨hk, by omega, e⟩]
      · rw [if_neg ep, c3 p hp]
        by_cases e2 : p < b ∧ p < k ∧ bit y (ln h p)
        · rw [if_pos e2, if_pos ⟨e2.1, by omega, e2.2.2⟩]
        · rw [if_neg e2, if_neg (fun z => e2 ⟨z.1, by omega, z.2.2⟩)]
    · rw [l5, c4, jn_1]
      congr 1
      have es := sumF_one (F := lf nv) (G := lf (nLeave h nv (jn k) 0)) (q := ln h k) b hq1 (fun t _ et => by
        unfold lf
        rw [l1]
        unfold upd
        rw [if_neg et])
      have e5 : lf nv (ln h k) = 0 := by
        unfold lf
        rw [c2 k hk, if_neg (show ¬ (k < k ∧ bit y (ln h k)) from fun z => absurd z.1 (by omega))]
        rfl
      have e6 : lf (nLeave h nv (jn k) 0) (ln h k) = 1 := by
        unfold lf
        rw [l1]
        unfold upd
        rw [if_pos rfl]
        rfl
      omega
theorem same_cough (w : hOk K a b l h) (r : RG b nv g) (n : NI b B y h nv) (h0 : ∀ s, s < b → nv 1 s = 0) : RG b (jfor (nCough1 h 0 y) b 0 nv) (jfor (mCough1 y) b 0 g) ∧ NI b B y h (jfor (nCough1 h 0 y) b 0 nv) := by
  have w1 := w.1
  have c0 : CI b y h nv 0 nv := by
    refine ⟨⟨rfl, rfl, rfl⟩, fun p hp => ?_, fun p hp => ?_, n.2.2.2⟩
    · rw [if_neg (fun z => absurd z.1 (by omega))]
      exact h0 _ (rO_ln w hp).1
    · rw [if_neg (fun z => absurd z.2.1 (by omega))]
      by_cases e : p < b
      · rw [n.2.1 p e, jb_f (fun z => z (h0 _ (rO_ln w e).1))]
      · exact n.2.2.1 p (by omega) hp
  have c := jfor_two (R := fun k x (_ : Unit) => CI b y h nv k x) (f := nCough1 h 0 y) (f' := fun _ u => u) b 0 nv () (fun j x _ h1 h2 z => CI_step w (by omega) z) c0
  rw [Nat.zero_add] at c
  have m := jfor_two (R := fun k x (_ : Unit) => (∀ s, s < k → x 0 s = if bit y s then 1 else -4) ∧ x 1 = g 1 ∧ x 2 = g 2 ∧ x 3 = g 3) (f := mCough1 y) (f' := fun _ u => u) b 0 g () (fun j x _ h1 h2 z => by
    refine ⟨fun s hs => ?_, ?_, ?_, ?_⟩
    · unfold mCough1
      rw [nset_at]
      unfold upd
      by_cases e : s = j
      · rw [if_pos e, e]
        by_cases e2 : bit y j
        · rw [if_pos ((and1' _).mpr e2), if_pos e2]
        · rw [if_neg (fun z2 => e2 ((and1' _).mp z2)), if_neg e2]
      · rw [if_neg e]
        exact z.1 s (by omega)
    · exact z.2.1
    · exact z.2.2.1
    · exact z.2.2.2) ⟨fun s hs => absurd hs (by omega), rfl, rfl, rfl⟩
  rw [Nat.zero_add] at m
  generalize jfor (nCough1 h 0 y) b 0 nv = nv' at c ⊢
  generalize jfor (mCough1 y) b 0 g = g' at m ⊢
  obtain ⟨⟨c1, c2, c3⟩, c4, c5, c6⟩ := c
  obtain ⟨m1, m2, m3, m4⟩ := m
  have e1 : ∀ s, s < b → nv' 1 s = if bit y s then 1 else 0 := by
    intro s hs
    obtain ⟨p, hp, e⟩ := ln_all w hs
    rw [← e, c4 p hp]
    by_cases e2 : bit y (ln h p)
    · rw [if_pos ⟨hp, e2⟩, if_pos e2]
    · rw [if_neg (fun z => e2 z.2), if_neg e2]
  refine ⟨fun s hs => ?_, fun s hs => ?_, fun p hp => ?_, fun p hp1 hp2 => ?_, c6⟩
  · obtain ⟨q1, q2, q3, q4⟩ := r s hs
    rw [m1 s hs, m2, m3, m4, c1, c2, c3, e1 s hs]
    refine ⟨?_, q2, q3, q4⟩
    by_cases e2 : bit y s
    · rw [if_pos e2, if_pos e2]; rfl
    · rw [if_neg e2, if_neg e2]; rfl
  · obtain ⟨p1, p2, p3, p4⟩ := n.1 s hs
    rw [c1, c2, e1 s hs]
    refine ⟨p1, ?_, p3, fun z => ?_⟩
    · by_cases e2 : bit y s
      · rw [if_pos e2]; exact ⟨1, by omega, rfl⟩
      · rw [if_neg e2]; exact ⟨0, by omega, rfl⟩
    · by_cases e2 : bit y s
      · exact Or.inr e2
      · rw [if_neg e2]; exact Or.inl rfl
  · rw [c5 p (by omega), c4 p hp]
    by_cases e2 : bit y (ln h p)
    · rw [if_pos ⟨hp, hp, e2⟩, if_pos ⟨hp, e2⟩]; rfl
    · rw [if_neg (fun z => e2 z.2.2), if_neg (fun z => e2 z.2)]; rfl
  · rw [c5 p hp2, if_neg (fun z => absurd z.1 (by omega))]
theorem nWatch1_1 {x : Int32} {k : Nat} : nWatch1 x k nv 1 = nv 1 := by
  unfold nWatch1
  by_cases e : rg 7 (nv 1) (jn k) = 0 ∧ rg 7 (nv 2) (jn k) = 0
  · rw [if_pos e, nset_ne (by decide)]
  · rw [if_neg e]
theorem same_stage (w : hOk K a b l h) (hK : K ≤ 1000000) (hB : B ≤ 8000) {i : Nat} (hi : i < l) (r : RG b nv g) (n : NI b B y h nv) (h0 : i = 0 → ∀ s, s < b → nv 1 s = 0) : RG b (nStage h (jn i) (if jn i = 0 then y else 0) nv) (mStage h b i y g) ∧ NI b (B + 52 * b) y h (nStage h (jn i) (if jn i = 0 then y else 0) nv) := by
  have w1 := w.1
  unfold nStage mStage
  rw [hOk_S w]
  have a1 := jfor_two (R := fun k x x' => (RG b x x' ∧ NI b B y h x) ∧ x 1 = nv 1) (f := nWatch1 (jn i)) (f' := mWatch1 i) b 0 nv g (fun j x x' h1 h2 z => ⟨same_watch (by omega) (by omega) z.1.1 z.1.2, by rw [nWatch1_1]; exact z.2⟩) ⟨⟨r, n⟩, rfl⟩
  generalize jfor (nWatch1 (jn i)) b 0 nv = nv1 at a1 ⊢
  generalize jfor (mWatch1 i) b 0 g = g1 at a1 ⊢
  obtain ⟨⟨r1, n1⟩, e1⟩ := a1
  have a2 : RG b (jfor (nCough1 h (jn i) (if jn i = 0 then y else 0)) b 0 nv1) (if i = 0 then jfor (mCough1 y) b 0 g1 else g1) ∧ NI b B y h (jfor (nCough1 h (jn i) (if jn i = 0 then y else 0)) b 0 nv1) := by
    by_cases e : i = 0
    · rw [if_pos e]
      subst e
      rw [if_pos (show jn 0 = 0 from rfl)]
      exact same_cough w r1 n1 (fun s hs => by rw [e1]; exact h0 rfl s hs)
    · rw [if_neg e, if_neg (show ¬ jn i = 0 from fun z => e (jn_inj (a := i) (b := 0) (by omega) (by omega) z))]
      rw [jfor_id b 0 nv1 (fun j x => by
        unfold nCough1
        rw [if_pos]
        have := bit_0 ((rg 7 (h 9) (jn j)).toNatClampNeg)
        have e3 : (0 : Int32) >>> (rg 7 (h 9) (jn j) &&& 31) = 0 := by
          apply Int32.toBitVec_inj.mp
          rw [Int32.toBitVec_shiftRight]
          simp
        rw [e3]
        decide)]
      exact ⟨r1, n1⟩
  generalize jfor (nCough1 h (jn i) (if jn i = 0 then y else 0)) b 0 nv1 = nv2 at a2 ⊢
  generalize (if i = 0 then jfor (mCough1 y) b 0 g1 else g1) = g2 at a2 ⊢
  have a3 := jfor_two (R := fun k x x' => RG b x x' ∧ NI b (B + 52 * k) y h x) (f := nStep1 h (jn i)) (f' := mStep1 h i) b 0 nv2 g2 (fun j x x' h1 h2 z => by
    have := same_step w hK (B := B + 52 * j) (by omega) hi (show j < b by omega) z.1 z.2
    rw [show B + 52 * j + 52 = B + 52 * (j + 1) by omega] at this
    exact this) a2
  rw [Nat.zero_add] at a3
  exact a3
theorem same_go (w : hOk K a b l h) (hK : K ≤ 1000000) : RG b (nUnfold h y) (mGo h b l y) ∧ NI b 4000 y h (nUnfold h y) := by
  have w1 := w.1
  unfold nUnfold mGo
  rw [hOk_B w]
  have a1 := jfor_two (R := fun k x x' => (RG b x x' ∧ NI b (52 * 7 * k) y h x) ∧ (k = 0 → ∀ s, s < b → x 1 s = 0)) (f := fun k nv => nStage h (jn k) (if jn k = 0 then y else 0) nv) (f' := fun i g => mStage h b i y g) l 0 (fun _ _ => 0) mGo0 (fun j x x' h1 h2 z => by
    have := same_stage w hK (B := 52 * 7 * j) (by omega) (show j < l by omega) z.1.1 z.1.2 z.2
    exact ⟨⟨this.1, NI_le (by omega) this.2⟩, fun z => absurd z (by omega)⟩) (by
    refine ⟨⟨fun s hs => ⟨rfl, rfl, rfl, rfl⟩, fun s hs => ⟨⟨0, by omega, rfl⟩, ⟨0, by omega, rfl⟩, Or.inl rfl, fun _ => Or.inl rfl⟩, fun p hp => (jb_f (fun z => z rfl)).symm, fun p _ _ => rfl, ?_⟩, fun _ s _ => rfl⟩
    have : sumF (lf (fun _ _ => (0 : Int32))) b = 0 := by
      rw [sumF_congr (F := lf (fun _ _ => (0 : Int32))) (G := fun _ => 0) b (fun i _ => if_pos rfl)]
      have := sumF_le (F := fun _ => 0) (c := 0) b (fun _ _ => Nat.le_refl 0)
      omega
    rw [this]
    rfl)
  rw [Nat.zero_add] at a1
  exact ⟨a1.1.1, NI_le (by omega) a1.1.2⟩
theorem mCnt_sum (b : Nat) (g : jH) : mCnt b g = jn (sumF (fun s => if g 0 s = -4 then 1 else 0) b) := by
  have a1 := jfor_two (R := fun k x (_ : Unit) => x = jn (sumF (fun s => if g 0 s = -4 then 1 else 0) k)) (f := fun k r => if g 0 k = -4 then r + 1 else r) (f' := fun _ u => u) b 0 0 () (fun j x _ h1 h2 z => by
    show (if g 0 j = -4 then x + 1 else x) = _
    rw [sumF]
    by_cases e : g 0 j = -4
    · rw [if_pos e, if_pos e, z, jn_1]
    · rw [if_neg e, if_neg e, z, Nat.add_zero]) rfl
  rw [Nat.zero_add] at a1
  exact a1
theorem lf_sum (r : RG b nv g) (hn : ∀ s, s < b → ∃ u, u ≤ 7 ∧ nv 1 s = jn u) : sumF (fun s => if g 0 s = -4 then 1 else 0) b + sumF (lf nv) b = b := by
  rw [← sumF_add, sumF_congr (G := fun _ => 1) b (fun s hs => by
    unfold lf
    by_cases e : nv 1 s = 0
    · rw [if_pos ((RG_0 r hn hs).mpr e), if_pos e]
    · rw [if_neg (fun z => e ((RG_0 r hn hs).mp z)), if_neg e])]
  have : ∀ n, sumF (fun _ => 1) n = n := fun n => by
    induction n with
    | zero => rfl
    | succ n ih => rw [sumF, ih]
  exact this b
/-- how many stay -/
theorem same_cnt (w : hOk K a b l h) (hK : K ≤ 1000000) : mCnt b (mGo h b l y) = h 10 11 - nUnfold h y 5 0 ∧ ∃ c, c ≤ b ∧ nUnfold h y 5 0 = jn c := by
  obtain ⟨r, n⟩ := same_go (y := y) w hK
  have e := lf_sum r (fun s hs => (n.1 s hs).2.1)
  refine ⟨?_, _, by omega, n.2.2.2⟩
  rw [mCnt_sum, n.2.2.2, w.2.1.2.1, jn_sub (by omega)]
  congr 1
  omega
theorem same_pass (w : hOk K a b l h) (hK : K ≤ 1000000) : mPass h b l y ↔ nCarry h (nUnfold h y) := by
  have w1 := w.1
  unfold mPass nCarry
  rw [(same_cnt w hK).1, w.2.1.2.2, w.2.1.2.1]
  exact ⟨fun z => ⟨(jn_lt (k := 0) (by omega) (by omega)).mpr z.1, z.2⟩, fun z => ⟨(jn_lt (k := 0) (by omega) (by omega)).mp z.1, z.2⟩⟩
end JSC
