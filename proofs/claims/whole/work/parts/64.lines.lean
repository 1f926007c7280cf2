/-! lines: none keeps a seat that would leave alone; all of them are 5040 at most -/
section JLI
variable {K a b l B : Nat} {y : Int32} {h g nv H : jH}
theorem nStep_other {x : jH} {i j q : Nat} (w : hOk K a b l h) (hj : j < b) (hq : q ≠ ln h j) : nStep1 h (jn i) j x 0 q = x 0 q ∧ nStep1 h (jn i) j x 1 q = x 1 q := by
  have w1 := w.1
  obtain ⟨hq1, hq2⟩ := rO_ln w hj
  have r9 : rg 7 (h 9) (jn j) = jn (ln h j) := by rw [rg_in (by omega) (show j < 7 by omega), hq2]
  have b0 : nBore h x (jn (ln h j)) (rg 7 (h 4) (jn i)) 0 q = x 0 q := by
    unfold nBore
    by_cases e : rg 7 (h 5) (jn (ln h j)) = 1
    · rw [if_pos e, nset_ne (by decide), nset_at, rs_in (by omega) (show ln h j < 7 by omega)]
      exact if_neg hq
    · rw [if_neg e, nset_at, rs_in (by omega) (show ln h j < 7 by omega)]
      exact if_neg hq
  have b1 : nBore h x (jn (ln h j)) (rg 7 (h 4) (jn i)) 1 = x 1 := nBore_f (by decide) (by decide)
  unfold nStep1
  simp only [r9]
  by_cases c : rg 7 (x 4) (jn j) = 0
  · rw [if_pos c]
    by_cases co : nOut h (nBore h x (jn (ln h j)) (rg 7 (h 4) (jn i))) (jn j)
    · rw [if_pos co]
      have l0 : nLeave h (nBore h x (jn (ln h j)) (rg 7 (h 4) (jn i))) (jn j) (jn i) 0 = nBore h x (jn (ln h j)) (rg 7 (h 4) (jn i)) 0 := by
        unfold nLeave
        rw [nset_ne (by decide), nset_ne (by decide), nset_ne (by decide)]
      have l1 : nLeave h (nBore h x (jn (ln h j)) (rg 7 (h 4) (jn i))) (jn j) (jn i) 1 q = x 1 q := by
        unfold nLeave
        rw [nset_ne (by decide), nset_ne (by decide), nset_at, b1, r9, rs_in (by omega) (show ln h j < 7 by omega)]
        exact if_neg hq
      rw [l0]
      exact ⟨b0, l1⟩
    · rw [if_neg co, b1]
      exact ⟨b0, rfl⟩
  · rw [if_neg c]
    exact ⟨rfl, rfl⟩
abbrev kOut (h : jH) (q : Nat) : Prop := ¬ h 5 q = 1 ∧ ¬ h 5 q = 3
/-- what a stage leaves of a seat that stays -/
theorem stage_seat (w : hOk K a b l h) (hK : K ≤ 1000000) (hB : B ≤ 8000) {i p : Nat} (hi : i < l) (hp : p < b) (r : RG b nv g) (n : NI b B 0 h nv) (st : nStage h (jn i) 0 nv 1 (ln h p) = 0) : nv 1 (ln h p) = 0 ∧ nStage h (jn i) 0 nv 0 (ln h p) = nBored h nv (jn (ln h p)) (h 4 i) ∧ ∃ m : Nat, m ≤ 2 ∧ ¬ (kOut h (ln h p) ∧ jmax 0 (h 7 (ln h p) - 3 * jn m) < nStage h (jn i) 0 nv 0 (ln h p)) := by
  have w1 := w.1
  have hq := (rO_ln w hp).1
  unfold nStage at st ⊢
  rw [hOk_S w] at st ⊢
  have a1 := jfor_two (R := fun k x x' => (RG b x x' ∧ NI b B 0 h x) ∧ x 1 = nv 1 ∧ x 0 = nv 0) (f := nWatch1 (jn i)) (f' := mWatch1 i) b 0 nv g (fun j x x' h1 h2 z => ⟨same_watch (by omega) (by omega) z.1.1 z.1.2, by rw [nWatch1_1]; exact z.2.1, by
    refine Eq.trans ?_ z.2.2
    unfold nWatch1
    by_cases e : rg 7 (x 1) (jn j) = 0 ∧ rg 7 (x 2) (jn j) = 0
    · rw [if_pos e, nset_ne (by decide)]
    · rw [if_neg e]⟩) ⟨⟨r, n⟩, rfl, rfl⟩
  generalize jfor (nWatch1 (jn i)) b 0 nv = nv1 at a1 st ⊢
  generalize jfor (mWatch1 i) b 0 g = g1 at a1
  obtain ⟨⟨r1, n1⟩, e1, e0⟩ := a1
  have hc : jfor (nCough1 h (jn i) 0) b 0 nv1 = nv1 := jfor_id b 0 nv1 (fun j x => by
    unfold nCough1
    rw [if_pos]
    have e3 : (0 : Int32) >>> (rg 7 (h 9) (jn j) &&& 31) = 0 := by
      apply Int32.toBitVec_inj.mp
      rw [Int32.toBitVec_shiftRight]
      simp
    rw [e3]
    decide)
  rw [hc] at st ⊢
  have a3 := jfor_two (R := fun k x x' => (RG b x x' ∧ NI b (B + 52 * k) 0 h x) ∧ (k ≤ p → x 0 (ln h p) = nv 0 (ln h p) ∧ x 1 (ln h p) = nv 1 (ln h p)) ∧ (p < k → x 1 (ln h p) = 0 → nv 1 (ln h p) = 0 ∧ x 0 (ln h p) = nBored h nv (jn (ln h p)) (h 4 i) ∧ ∃ m : Nat, m ≤ 2 ∧ ¬ (kOut h (ln h p) ∧ jmax 0 (h 7 (ln h p) - 3 * jn m) < x 0 (ln h p)))) (f := nStep1 h (jn i)) (f' := mStep1 h i) b 0 nv1 g1 (fun j x x' _ hj z => by
    obtain ⟨⟨z1, z2⟩, z3, z4⟩ := z
    have st2 := same_step w hK (B := B + 52 * j) (by omega) hi (show j < b by omega) z1 z2
    rw [show B + 52 * j + 52 = B + 52 * (j + 1) by omega] at st2
    refine ⟨st2, fun hk => ?_, fun hk hl => ?_⟩
    · obtain ⟨o1, o2⟩ := nStep_other (x := x) (i := i) (q := ln h p) w (show j < b by omega) (fun z => by have := ln_inj w hp (show j < b by omega) z; omega)
      rw [o1, o2]
      exact z3 (by omega)
    · by_cases e : j = p
      · subst e
        obtain ⟨y0, y1⟩ := z3 (Nat.le_refl _)
        obtain ⟨hq1, hq2⟩ := rO_ln w hp
        obtain ⟨hs1, hs2⟩ := rO_bl w hi
        have r9 : rg 7 (h 9) (jn j) = jn (ln h j) := by rw [rg_in (by omega) (show j < 7 by omega), hq2]
        have r4 : rg 7 (h 4) (jn i) = h 4 i := rg_in (by omega) (by omega)
        have rn : rg 7 (x 4) (jn j) = jb (¬ x 1 (ln h j) = 0) := by rw [rg_in (by omega) (show j < 7 by omega), z2.2.1 j hp]
        unfold nStep1 at hl ⊢
        simp only [r9, r4, rn] at hl ⊢
        by_cases c : x 1 (ln h j) = 0
        · rw [if_pos (jb_f (fun z => z c))] at hl ⊢
          have eb : nBored h x (jn (ln h j)) (h 4 i) = nBored h nv (jn (ln h j)) (h 4 i) := by
            unfold nBored
            rw [rg_in (by omega) (show ln h j < 7 by omega), rg_in (by omega) (show ln h j < 7 by omega), rg_in (by omega) (show ln h j < 7 by omega), rg_in (by omega) (show ln h j < 7 by omega), y0]
          have b0 : nBore h x (jn (ln h j)) (h 4 i) 0 (ln h j) = nBored h nv (jn (ln h j)) (h 4 i) := by
            rw [← eb]
            unfold nBore
            by_cases e : rg 7 (h 5) (jn (ln h j)) = 1
            · rw [if_pos e, nset_ne (by decide), nset_at, rs_in (by omega) (show ln h j < 7 by omega)]
              exact if_pos rfl
            · rw [if_neg e, nset_at, rs_in (by omega) (show ln h j < 7 by omega)]
              exact if_pos rfl
          by_cases co : nOut h (nBore h x (jn (ln h j)) (h 4 i)) (jn j)
          · rw [if_pos co] at hl
            exfalso
            have l1 : nLeave h (nBore h x (jn (ln h j)) (h 4 i)) (jn j) (jn i) 1 (ln h j) = jn (i + 1) := by
              unfold nLeave
              rw [nset_ne (by decide), nset_ne (by decide), nset_at, r9, rs_in (by omega) (show ln h j < 7 by omega), jn_1]
              exact if_pos rfl
            rw [l1] at hl
            have := jn_inj (a := i + 1) (b := 0) (by omega) (by omega) hl
            omega
          · rw [if_neg co]
            refine ⟨by rw [← y1]; exact c, b0, ?_⟩
            have g1 := gn_rg w z1 z2 (x := jn j - 1) (by
              by_cases e : j = 0
              · left; rw [e]; rfl
              · right; exact ⟨j - 1, by omega, jn_sub (a := j) (b := 1) (by omega)⟩)
            have g2 := gn_rg w z1 z2 (x := jn j + 1) (Or.inr ⟨j + 1, by omega, jn_1 j⟩)
            have jm : ∃ m : Nat, m ≤ 2 ∧ rg 7 (x 4) (jn j - 1) + rg 7 (x 4) (jn j + 1) = jn m := by
              rw [g1, g2]
              rcases jb_01 (mGn h x' (jn j - 1)) with e | e <;> rcases jb_01 (mGn h x' (jn j + 1)) with e' | e' <;> rw [e, e']
              · exact ⟨0, by omega, rfl⟩
              · exact ⟨1, by omega, rfl⟩
              · exact ⟨1, by omega, rfl⟩
              · exact ⟨2, by omega, rfl⟩
            obtain ⟨m, m1, m2⟩ := jm
            refine ⟨m, m1, fun z => co ?_⟩
            unfold nOut
            rw [nBore_f (by decide) (by decide), m2, r9, rg_in (by omega) (show ln h j < 7 by omega), rg_in (by omega) (show ln h j < 7 by omega), rg_in (by omega) (show ln h j < 7 by omega)]
            exact z
        · rw [if_neg (fun z => absurd ((jb_0 _).mp z) (fun z2 => z2 c))] at hl
          exact absurd hl c
      · obtain ⟨o1, o2⟩ := nStep_other (x := x) (i := i) (q := ln h p) w (show j < b by omega) (fun z => e (ln_inj w hp (show j < b by omega) z).symm)
        rw [o1]
        rw [o2] at hl
        exact z4 (by omega) hl) ⟨⟨r1, n1⟩, fun _ => by rw [e0, e1]; exact ⟨rfl, rfl⟩, fun z => absurd z (by omega)⟩
  rw [Nat.zero_add] at a3
  exact a3.2.2 hp st
/-- a seat alone -/
def al1 (H hk : jH) (q : Nat) : Prop := (∀ r, r ≠ 9 → r ≠ 10 → hk r = H r) ∧ hk 10 11 = 1 ∧ hk 10 12 = H 10 12 ∧ hk 9 0 = jn q
theorem jmax_le {A B : Int32} (h : A ≤ B) : jmax 0 A ≤ jmax 0 B := by
  unfold jmax
  by_cases c1 : 0 < A
  · rw [if_pos c1, if_pos (Int32.lt_of_lt_of_le c1 h)]; exact h
  · rw [if_neg c1]
    by_cases c2 : 0 < B
    · rw [if_pos c2]; exact Int32.le_of_lt c2
    · rw [if_neg c2]; exact Int32.le_refl 0
theorem alone_stage {hk : jH} {q i : Nat} {A : jH} (hq : q < 7) (e : al1 H hk q) (h4 : A 4 0 = 0) (h41 : A 4 1 = 0) (h5 : A 5 0 = 0) (no : ¬ (kOut H q ∧ jmax 0 (H 7 q) < nBored H A (jn q) (rg 7 (H 4) (jn i)))) : nStage hk (jn i) (if jn i = 0 then 0 else 0) A 4 0 = 0 ∧ nStage hk (jn i) (if jn i = 0 then 0 else 0) A 4 1 = 0 ∧ nStage hk (jn i) (if jn i = 0 then 0 else 0) A 5 0 = 0 ∧ nStage hk (jn i) (if jn i = 0 then 0 else 0) A 0 q = nBored H A (jn q) (rg 7 (H 4) (jn i)) := by
  rw [if_c]
  unfold nStage
  have eS : hS hk = 1 := by
    unfold hS
    rw [e.2.1]
    rfl
  rw [eS]
  have hc : ∀ x : jH, jfor (nCough1 hk (jn i) 0) 1 0 x = x := fun x => jfor_id 1 0 x (fun j x => by
    unfold nCough1
    rw [if_pos]
    have e3 : (0 : Int32) >>> (rg 7 (hk 9) (jn j) &&& 31) = 0 := by
      apply Int32.toBitVec_inj.mp
      rw [Int32.toBitVec_shiftRight]
      simp
    rw [e3]
    decide)
  rw [hc]
  show nStep1 hk (jn i) 0 (nWatch1 (jn i) 0 A) 4 0 = 0 ∧ nStep1 hk (jn i) 0 (nWatch1 (jn i) 0 A) 4 1 = 0 ∧ nStep1 hk (jn i) 0 (nWatch1 (jn i) 0 A) 5 0 = 0 ∧ nStep1 hk (jn i) 0 (nWatch1 (jn i) 0 A) 0 q = _
  have ew : ∀ r, r ≠ 3 → nWatch1 (jn i) 0 A r = A r := fun r hr => by
    unfold nWatch1
    by_cases e : rg 7 (A 1) (jn 0) = 0 ∧ rg 7 (A 2) (jn 0) = 0
    · rw [if_pos e, nset_ne hr]
    · rw [if_neg e]
  generalize nWatch1 (jn i) 0 A = A1 at ew ⊢
  have w0 := ew 0 (by decide)
  have w4 := ew 4 (by decide)
  have w5 := ew 5 (by decide)
  have k9 : rg 7 (hk 9) (jn 0) = jn q := by rw [rg_in (by omega) (by omega)]; exact e.2.2.2
  have eb : nBored hk A1 (jn q) (rg 7 (hk 4) (jn i)) = nBored H A (jn q) (rg 7 (H 4) (jn i)) := by
    unfold nBored nMore
    rw [w0, e.1 0 (by decide) (by decide), e.1 1 (by decide) (by decide), e.1 3 (by decide) (by decide), e.1 4 (by decide) (by decide), e.1 5 (by decide) (by decide), e.1 6 (by decide) (by decide)]
  have b0 : nBore hk A1 (jn q) (rg 7 (hk 4) (jn i)) 0 q = nBored H A (jn q) (rg 7 (H 4) (jn i)) := by
    rw [← eb]
    unfold nBore
    by_cases c : rg 7 (hk 5) (jn q) = 1
    · rw [if_pos c, nset_ne (by decide), nset_at, rs_in (by omega) hq]
      exact if_pos rfl
    · rw [if_neg c, nset_at, rs_in (by omega) hq]
      exact if_pos rfl
  have b4 : nBore hk A1 (jn q) (rg 7 (hk 4) (jn i)) 4 = A1 4 := nBore_f (by decide) (by decide)
  have b5 : nBore hk A1 (jn q) (rg 7 (hk 4) (jn i)) 5 = A1 5 := nBore_f (by decide) (by decide)
  have co : ¬ nOut hk (nBore hk A1 (jn q) (rg 7 (hk 4) (jn i))) (jn 0) := fun z => by
    unfold nOut at z
    rw [k9, b4, w4, rg_in (by omega) hq, rg_in (by omega) hq, rg_in (by omega) hq, b0, e.1 5 (by decide) (by decide), e.1 7 (by decide) (by decide), rg_neg (show jn 0 - 1 < 0 by decide), show jn 0 + 1 = jn 1 from rfl, rg_in (by omega) (by omega), h41] at z
    rw [show (3 * (0 + 0) : Int32) = 0 by decide, Int32.sub_zero] at z
    exact no z
  unfold nStep1
  simp only [k9]
  rw [w4, rg_in (by omega) (by omega), if_pos h4, if_neg co, b4, b5, w4, w5]
  exact ⟨h4, h41, h5, b0⟩
/-- who stays in a line stays alone -/
theorem stays_alone (w : hOk K a b l h) (hK : K ≤ 1000000) (eh : ∀ r, r ≠ 9 → h r = H r) {hk : jH} {q : Nat} (hq : q < b) (e : al1 H hk q) (st : nUnfold h 0 1 q = 0) : nUnfold hk 0 5 0 = 0 := by
  have w1 := w.1
  obtain ⟨p, hp, ep⟩ := ln_all w hq
  have eB : hB hk = l := by
    have := hOk_B w
    unfold hB at this ⊢
    rw [e.2.2.1, ← eh 10 (by decide)]
    exact this
  unfold nUnfold at st ⊢
  rw [hOk_B w] at st
  rw [eB]
  have a1 := jfor_two (R := fun k (x : jH) (A : jH) => (∃ g, RG b x g ∧ NI b (52 * 7 * k) 0 h x) ∧ (k = 0 → ∀ s, s < b → x 1 s = 0) ∧ (x 1 q = 0 → A 4 0 = 0 ∧ A 4 1 = 0 ∧ A 5 0 = 0 ∧ A 0 q = x 0 q)) (f := fun k nv => nStage h (jn k) (if jn k = 0 then 0 else 0) nv) (f' := fun k nv => nStage hk (jn k) (if jn k = 0 then 0 else 0) nv) l 0 (fun _ _ => 0) (fun _ _ => 0) (fun j x A _ hj z => by
    obtain ⟨⟨g, z1, z2⟩, z3, z4⟩ := z
    have hst := same_stage (y := 0) w hK (B := 52 * 7 * j) (by omega) (show j < l by omega) z1 z2 z3
    refine ⟨⟨_, hst.1, NI_le (by omega) hst.2⟩, fun z => absurd z (by omega), fun hl => ?_⟩
    rw [if_c] at hl
    rw [← ep] at hl
    obtain ⟨s1, s2, m, m1, m2⟩ := stage_seat w hK (B := 52 * 7 * j) (by omega) (show j < l by omega) hp z1 z2 hl
    rw [ep] at s1 s2 m2
    obtain ⟨t1, t2, t3, t4⟩ := z4 s1
    have r4 : rg 7 (H 4) (jn j) = h 4 j := by rw [← eh 4 (by decide), rg_in (by omega) (by omega)]
    have eb : nBored H A (jn q) (rg 7 (H 4) (jn j)) = nBored h x (jn q) (h 4 j) := by
      unfold nBored nMore
      rw [r4, ← eh 0 (by decide), ← eh 1 (by decide), ← eh 3 (by decide), ← eh 5 (by decide), ← eh 6 (by decide), rg_in (show 7 ≤ 1000 by omega) (show q < 7 by omega), rg_in (show 7 ≤ 1000 by omega) (show q < 7 by omega), rg_in (show 7 ≤ 1000 by omega) (show q < 7 by omega), rg_in (show 7 ≤ 1000 by omega) (show q < 7 by omega), t4]
    have no : ¬ (kOut H q ∧ jmax 0 (H 7 q) < nBored H A (jn q) (rg 7 (H 4) (jn j))) := fun z => by
      rw [eb, ← s2] at z
      refine m2 ⟨by unfold kOut at z ⊢; rw [eh 5 (by decide)]; exact z.1, Int32.lt_of_le_of_lt (jmax_le ?_) z.2⟩
      obtain ⟨pt, _, p2, p3⟩ := w.2.2.2.2.2.2.2.1 q hq
      rw [← eh 7 (by decide), p3, show (3 : Int32) = jn 3 from rfl, jn_mul]
      by_cases c : 3 * m ≤ pt
      · rw [jn_sub c, jn_le (by omega) (by omega)]
        omega
      · exact Int32.le_of_lt (Int32.lt_of_lt_of_le (jn_sub_neg (by omega) (by omega)) (jn_pos (by omega)))
    obtain ⟨u1, u2, u3, u4⟩ := alone_stage (i := j) (show q < 7 by omega) e t1 t2 t3 no
    refine ⟨u1, u2, u3, ?_⟩
    rw [u4, eb, ← s2]
    show _ = nStage h (jn j) (if jn j = 0 then 0 else 0) x 0 q
    rw [if_c]) ⟨⟨mGo0, fun s hs => ⟨rfl, rfl, rfl, rfl⟩, fun s hs => ⟨⟨0, by omega, rfl⟩, ⟨0, by omega, rfl⟩, Or.inl rfl, fun _ => Or.inl rfl⟩, fun p hp => (jb_f (fun z => z rfl)).symm, fun p _ _ => rfl, by
      have : sumF (lf (fun _ _ => (0 : Int32))) b = 0 := by
        rw [sumF_congr (F := lf (fun _ _ => (0 : Int32))) (G := fun _ => 0) b (fun i _ => if_pos rfl)]
        have := sumF_le (F := fun _ => 0) (c := 0) b (fun _ _ => Nat.le_refl 0)
        omega
      rw [this]
      rfl⟩, fun _ _ _ => rfl, fun _ => ⟨rfl, rfl, rfl, rfl⟩⟩
  rw [Nat.zero_add] at a1
  exact (a1.2.2 st).2.2.1
theorem sumF_mono {F G : Nat → Nat} : ∀ n, (∀ i, i < n → F i ≤ G i) → sumF F n ≤ sumF G n
  | 0, _ => Nat.le_refl _
  | n + 1, h => by
    rw [sumF, sumF]
    have h1 := sumF_mono n (fun i hi => h i (by omega))
    have h2 := h n (by omega)
    omega
theorem stay_le (wH : hOk K a b l H) (w : hOk K a b l h) (hK : K ≤ 1000000) (eh : ∀ r, r ≠ 9 → h r = H r) : ∃ s t, s ≤ t ∧ t ≤ 7 ∧ h 10 11 - nUnfold h 0 5 0 = jn s ∧ hPatient H = jn t := by
  have w1 := w.1
  obtain ⟨r, n⟩ := same_go (y := 0) w hK
  have e := lf_sum r (fun s hs => (n.1 s hs).2.1)
  -- the patient ones
  have a1 := jfor_two (R := fun k (o : Int32 × jH) (_ : Unit) => o.1 = jn (sumF (fun q => if nUnfold (nset (hSc H 11 1) 9 (upd (H 9) 0 (jn q))) 0 5 0 = 0 then 1 else 0) k) ∧ ((k = 0 ∧ o.2 = hSc H 11 1) ∨ ∃ q, o.2 = nset (hSc H 11 1) 9 (upd (H 9) 0 q))) (f := paStep) (f' := fun _ u => u) b 0 (0, hSc H 11 1) () (fun j o _ _ _ z => by
    obtain ⟨z1, z2⟩ := z
    have e9 : hPut9 o.2 j = nset (hSc H 11 1) 9 (upd (H 9) 0 (jn j)) := by
      unfold hPut9
      rw [show (0 : Int32) = jn 0 from rfl, rs_in (by omega) (by omega)]
      rcases z2 with ⟨_, z2⟩ | ⟨q, z2⟩
      · rw [z2, hSc_f (by decide)]
      · rw [z2, nset_at, upd_upd, nset_nset]
    unfold paStep
    rw [e9, sumF]
    refine ⟨?_, Or.inr ⟨jn j, rfl⟩⟩
    show (if nUnfold _ 0 5 0 = 0 then o.1 + 1 else o.1) = _
    by_cases c : nUnfold (nset (hSc H 11 1) 9 (upd (H 9) 0 (jn j))) 0 5 0 = 0
    · rw [if_pos c, if_pos c, z1, jn_1]
    · rw [if_neg c, if_neg c, z1, Nat.add_zero]) ⟨rfl, Or.inl ⟨rfl, rfl⟩⟩
  rw [Nat.zero_add] at a1
  have hp : hPatient H = jn (sumF (fun q => if nUnfold (nset (hSc H 11 1) 9 (upd (H 9) 0 (jn q))) 0 5 0 = 0 then 1 else 0) b) := by
    unfold hPatient
    rw [hOk_S wH]
    exact a1.1
  refine ⟨sumF (fun s => if mGo h b l 0 0 s = -4 then 1 else 0) b, _, ?_, ?_, ?_, hp⟩
  · refine sumF_mono b (fun q hq => ?_)
    by_cases c : mGo h b l 0 0 q = -4
    · rw [if_pos c]
      have c2 := (RG_0 r (fun s hs => (n.1 s hs).2.1) hq).mp c
      rw [if_pos (stays_alone (H := H) w hK eh hq ⟨fun r h9 h10 => by rw [nset_ne h9, hSc_f h10], by rw [nset_ne (by decide), hSc_10], by rw [nset_ne (by decide), hSc_10' (by decide)], by rw [nset_at]; exact if_pos rfl⟩ c2)]
      exact Nat.le_refl _
    · rw [if_neg c]
      exact Nat.zero_le _
  · have := sumF_le (F := fun q => if nUnfold (nset (hSc H 11 1) 9 (upd (H 9) 0 (jn q))) 0 5 0 = 0 then 1 else 0) (c := 1) b (fun q _ => by
      by_cases c : nUnfold (nset (hSc H 11 1) 9 (upd (H 9) 0 (jn q))) 0 5 0 = 0
      · rw [if_pos c]; exact Nat.le_refl _
      · rw [if_neg c]; exact Nat.zero_le _)
    omega
  · rw [n.2.2.2, w.2.1.2.1, jn_sub (by omega)]
    congr 1
    omega
end JLI
