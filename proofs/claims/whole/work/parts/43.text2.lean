/-! a text: append, item, all -/
def itRd (t : Nat → Int32) (s : Nat) (h : Nat → Nat → Int32) : Int32 × Nat × (Nat → Nat → Int32) :=
  if (t s).toInt = 98 then blRd t (s + 1) h else if (t s).toInt = 103 then tiRd t (s + 1) h else if (t s).toInt = 104 then seRd t (s + 1) h else if (t s).toInt = 115 then scRd t (s + 1) h else (0, s + 1, h)
def rdRun (t : Nat → Int32) (L : Nat) : Nat → Nat → (Nat → Nat → Int32) → Int32 × Nat × (Nat → Nat → Int32)
  | 0, s, h => (-4, s, h)
  | f + 1, s, h => if s < L then (if (itRd t s h).1 = 0 then (jn s, (itRd t s h).2) else rdRun t L f (itRd t s h).2.1 (itRd t s h).2.2) else (-4, s, h)
def hTen (h : Nat → Nat → Int32) : Prop := ∃ a, a ≤ 7 ∧ h 10 10 = jn a
theorem hTell_ten {f1 f2 f3 s : Nat} {x y z : Int32} {h : Nat → Nat → Int32} (hf : f1 < 10 ∧ f2 < 10 ∧ f3 < 10) (w : hTen h) (h7 : h 10 s < 7) : hTen (hTell f1 f2 f3 s x y z h) := by
  obtain ⟨a, h1, h2⟩ := w
  have e : hTell f1 f2 f3 s x y z h 10 10 = if 10 = s then h 10 s + 1 else h 10 10 := by
    unfold hTell
    by_cases e : 10 = s
    · rw [if_pos e]; subst e; exact hSc_10 _ _ _
    · rw [if_neg e, hSc_10' e, nset_ne (by omega), nset_ne (by omega), nset_ne (by omega)]
  unfold hTen
  rw [e]
  by_cases e : 10 = s
  · subst e
    rw [h2] at h7
    have := (jn_lt (k := a) (l := 7) (by omega) (by omega)).mp h7
    rw [if_pos rfl, h2, jn_1]
    exact ⟨a + 1, by omega, rfl⟩
  · rw [if_neg e]
    exact ⟨a, h1, h2⟩
theorem blRun_ten (t : Nat → Int32) : ∀ (f s : Nat) (h : Nat → Nat → Int32), (blRun t f s h).2.2 10 10 = h 10 10 ∧ (blRun t f s h).2.1 ≤ s + f
  | 0, s, h => ⟨rfl, Nat.le_refl _⟩
  | f + 1, s, h => by
    rw [blRun]
    by_cases h1 : t s = 59
    · rw [if_pos h1]
      exact ⟨rfl, by show s + 1 ≤ s + (f + 1); omega⟩
    · rw [if_neg h1]
      by_cases h2 : (0 ≤ fig (t s) ∧ fig (t s) ≤ h 10 10 - 1) ∧ ¬ hBilled h (fig (t s))
      · rw [if_pos h2]
        have e := blRun_ten t f (s + 1) (hMount h (fig (t s)) (hB h))
        refine ⟨e.1.trans ?_, by omega⟩
        unfold hMount
        rw [hSc_10' (by decide), nset_ne (by decide)]
      · rw [if_neg h2]
        exact ⟨rfl, by show s + 1 ≤ s + (f + 1); omega⟩
theorem itRd_ten {t : Nat → Int32} {s : Nat} {h : Nat → Nat → Int32} (w : hTen h) : hTen (itRd t s h).2.2 ∧ s < (itRd t s h).2.1 ∧ (itRd t s h).2.1 ≤ s + 20 := by
  unfold itRd
  by_cases h1 : (t s).toInt = 98
  · rw [if_pos h1]
    have e := blRun_ten t 8 (s + 1) (hSc h 12 0)
    have e2 : ∀ f s h, s < (blRun t (f + 1) s h).2.1 := by
      intro f
      induction f with
      | zero =>
        intro s h
        rw [blRun]
        by_cases h1 : t s = 59
        · rw [if_pos h1]; exact Nat.lt_succ_self s
        · rw [if_neg h1]
          by_cases h2 : (0 ≤ fig (t s) ∧ fig (t s) ≤ h 10 10 - 1) ∧ ¬ hBilled h (fig (t s))
          · rw [if_pos h2]; exact Nat.lt_succ_self s
          · rw [if_neg h2]; exact Nat.lt_succ_self s
      | succ f ih =>
        intro s h
        rw [blRun]
        by_cases h1 : t s = 59
        · rw [if_pos h1]; exact Nat.lt_succ_self s
        · rw [if_neg h1]
          by_cases h2 : (0 ≤ fig (t s) ∧ fig (t s) ≤ h 10 10 - 1) ∧ ¬ hBilled h (fig (t s))
          · rw [if_pos h2]
            have := ih (s + 1) (hMount h (fig (t s)) (hB h))
            omega
          · rw [if_neg h2]; exact Nat.lt_succ_self s
    have e3 : s + 1 < (blRun t 8 (s + 1) (hSc h 12 0)).2.1 := e2 7 (s + 1) (hSc h 12 0)
    obtain ⟨a, w1, w2⟩ := w
    refine ⟨⟨a, w1, ?_⟩, ?_, ?_⟩
    · show (blRun t 8 (s + 1) (hSc h 12 0)).2.2 10 10 = _
      rw [e.1, hSc_10' (by decide)]
      exact w2
    · show s < (blRun t 8 (s + 1) (hSc h 12 0)).2.1
      omega
    · show (blRun t 8 (s + 1) (hSc h 12 0)).2.1 ≤ _
      omega
  · rw [if_neg h1]
    by_cases h2 : (t s).toInt = 103
    · rw [if_pos h2]
      have g := nmr_2 t (s + 1) 59 0 99
      obtain ⟨a, w1, w2⟩ := w
      refine ⟨⟨a, w1, ?_⟩, ?_, ?_⟩
      · show hSc h 13 (nmr t (s + 1) 59 0 99).1 10 10 = _
        rw [hSc_10' (by decide)]
        exact w2
      · show s < (nmr t (s + 1) 59 0 99).2
        omega
      · show (nmr t (s + 1) 59 0 99).2 ≤ _
        omega
    · rw [if_neg h2]
      by_cases h3 : (t s).toInt = 104
      · rw [if_pos h3]
        have g1 := nmr_2 t (s + 1) 44 0 3
        have g2 := nmr_2 t (nmr t (s + 1) 44 0 3).2 44 0 3
        have g3 := nmr_2 t (nmr t (nmr t (s + 1) 44 0 3).2 44 0 3).2 59 0 30
        unfold seRd
        by_cases h5 : (0 ≤ (nm3 t (s + 1) 3 3 30 59 0).1 ∧ 0 ≤ (nm3 t (s + 1) 3 3 30 59 0).2.1 ∧ 0 ≤ (nm3 t (s + 1) 3 3 30 59 0).2.2.1) ∧ h 10 11 < 7
        · rw [if_pos h5]
          refine ⟨hTell_ten (by decide) w h5.2, ?_, ?_⟩
          · show s < (nmr t (nmr t (nmr t (s + 1) 44 0 3).2 44 0 3).2 59 0 30).2
            omega
          · show (nmr t (nmr t (nmr t (s + 1) 44 0 3).2 44 0 3).2 59 0 30).2 ≤ _
            omega
        · rw [if_neg h5]
          refine ⟨w, ?_, ?_⟩
          · show s < (nmr t (nmr t (nmr t (s + 1) 44 0 3).2 44 0 3).2 59 0 30).2
            omega
          · show (nmr t (nmr t (nmr t (s + 1) 44 0 3).2 44 0 3).2 59 0 30).2 ≤ _
            omega
      · rw [if_neg h3]
        by_cases h4 : (t s).toInt = 115
        · rw [if_pos h4]
          have g1 := nmr_2 t (s + 1) 44 0 3
          have g2 := nmr_2 t (nmr t (s + 1) 44 0 3).2 44 1 20
          have g3 := nmr_2 t (nmr t (nmr t (s + 1) 44 0 3).2 44 1 20).2 59 0 8
          unfold scRd
          by_cases h5 : (0 ≤ (nm3 t (s + 1) 3 20 8 59 1).1 ∧ 0 ≤ (nm3 t (s + 1) 3 20 8 59 1).2.1 ∧ 0 ≤ (nm3 t (s + 1) 3 20 8 59 1).2.2.1) ∧ h 10 10 < 7
          · rw [if_pos h5]
            refine ⟨hTell_ten (by decide) w h5.2, ?_, ?_⟩
            · show s < (nmr t (nmr t (nmr t (s + 1) 44 0 3).2 44 1 20).2 59 0 8).2
              omega
            · show (nmr t (nmr t (nmr t (s + 1) 44 0 3).2 44 1 20).2 59 0 8).2 ≤ _
              omega
          · rw [if_neg h5]
            refine ⟨w, ?_, ?_⟩
            · show s < (nmr t (nmr t (nmr t (s + 1) 44 0 3).2 44 1 20).2 59 0 8).2
              omega
            · show (nmr t (nmr t (nmr t (s + 1) 44 0 3).2 44 1 20).2 59 0 8).2 ≤ _
              omega
        · rw [if_neg h4]
          exact ⟨w, Nat.lt_succ_self s, by show s + 1 ≤ s + 20; omega⟩
section JT2
variable {d n i q L s : Nat} {v : Option jV} {σ' : jS} {M : jM} {x y z : Int32} {h : Nat → Nat → Int32}
theorem jb01 {p : Prop} {x : Int32} (hx : x = 0 ∨ x = 1) : ((x = 0 ∨ x = 1) ∧ p) ↔ p := ⟨fun w => w.2, fun w => ⟨hx, w⟩⟩
theorem blRun_01 (t : Nat → Int32) : ∀ (f s : Nat) (h : Nat → Nat → Int32), (blRun t f s h).1 = 0 ∨ (blRun t f s h).1 = 1
  | 0, s, h => Or.inl rfl
  | f + 1, s, h => by
    rw [blRun]
    by_cases h1 : t s = 59
    · rw [if_pos h1]; exact jb_01 _
    · rw [if_neg h1]
      by_cases h2 : (0 ≤ fig (t s) ∧ fig (t s) ≤ h 10 10 - 1) ∧ ¬ hBilled h (fig (t s))
      · rw [if_pos h2]; exact blRun_01 t f _ _
      · rw [if_neg h2]; exact Or.inl rfl
/-- Text.readItem -/
theorem c81 (hL : M 9 (0, 0) 2 = jn L) (h1 : L ≤ 200) (h2 : s ≤ 800) (w : hTen h) : jE (d + 4) 81 0 [some (.inr (.inr (some (9, (0, 0)))))] [] (n, ([], tX M h s)) v σ' ↔ v = some (.inl (itRd (tx (M 12 (30, 0)) L) s h).1) ∧ σ' = (n, ([], tX M (itRd (tx (M 12 (30, 0)) L) s h).2.2 (itRd (tx (M 12 (30, 0)) L) s h).2.1)) := by
  obtain ⟨a, w1, w2⟩ := w
  rw [s81_0, s81_1]
  simp only [c87 hL h1 (show s ≤ 1000 by omega), jcall_eq, Option.toList_some, Option.toList_none, List.cons_append, List.nil_append]
  rw [s81_4]
  unfold itRd
  generalize ht : tx (M 12 (30, 0)) L = t
  have q84 := c84 (d := d) (n := n) (v := v) (σ' := σ') hL h1 w1 (show s + 1 ≤ 900 by omega) w2
  have q85 := fun v σ' => c85 (d := d) (n := n) (v := v) (σ' := σ') (h := h) hL h1 (show s + 1 ≤ 900 by omega)
  have q83 := fun v σ' => c83 (d := d) (n := n) (v := v) (σ' := σ') (h := h) hL h1 (show s + 1 ≤ 900 by omega)
  have q82 := fun v σ' => c82 (d := d) (n := n) (v := v) (σ' := σ') (h := h) hL h1 (show s + 1 ≤ 900 by omega)
  have q84 := fun v σ' => c84 (d := d) (n := n) (v := v) (σ' := σ') hL h1 w1 (show s + 1 ≤ 900 by omega) w2
  rw [ht] at q84 q85 q83 q82
  by_cases e1 : (t s).toInt = 98
  · rw [if_pos e1, if_pos e1]
    simp only [s81_58, s81_59, q84, jcall_eq, Option.toList_some, Option.toList_none, List.cons_append, List.nil_append, s81_62]
    exact jb01 (blRun_01 _ _ _ _)
  · rw [if_neg e1, if_neg e1]
    by_cases e2 : (t s).toInt = 103
    · rw [if_pos e2, if_pos e2]
      simp only [s81_63, s81_64, q85, jcall_eq, Option.toList_some, Option.toList_none, List.cons_append, List.nil_append, s81_67]
      exact jb01 (jb_01 _)
    · rw [if_neg e2, if_neg e2]
      by_cases e3 : (t s).toInt = 104
      · rw [if_pos e3, if_pos e3]
        simp only [s81_53, s81_54, q83, jcall_eq, Option.toList_some, Option.toList_none, List.cons_append, List.nil_append, s81_57]
        refine jb01 ?_
        unfold seRd
        by_cases h5 : (0 ≤ (nm3 t (s + 1) 3 3 30 59 0).1 ∧ 0 ≤ (nm3 t (s + 1) 3 3 30 59 0).2.1 ∧ 0 ≤ (nm3 t (s + 1) 3 3 30 59 0).2.2.1) ∧ h 10 11 < 7
        · rw [if_pos h5]; exact Or.inr rfl
        · rw [if_neg h5]; exact Or.inl rfl
      · rw [if_neg e3, if_neg e3]
        by_cases e4 : (t s).toInt = 115
        · rw [if_pos e4, if_pos e4]
          simp only [s81_48, s81_49, q82, jcall_eq, Option.toList_some, Option.toList_none, List.cons_append, List.nil_append, s81_52]
          refine jb01 ?_
          unfold scRd
          by_cases h5 : (0 ≤ (nm3 t (s + 1) 3 20 8 59 1).1 ∧ 0 ≤ (nm3 t (s + 1) 3 20 8 59 1).2.1 ∧ 0 ≤ (nm3 t (s + 1) 3 20 8 59 1).2.2.1) ∧ h 10 10 < 7
          · rw [if_pos h5]; exact Or.inr rfl
          · rw [if_neg h5]; exact Or.inl rfl
        · rw [if_neg e4, if_neg e4, s81_68, s81_69]
          exact jb01 (Or.inl rfl)
theorem c80_loop (hL : M 9 (0, 0) 2 = jn L) (h1 : L ≤ 200) : ∀ (f k s : Nat) (h : Nat → Nat → Int32) (a2 : Option jV), k + f = 200 → k ≤ s → s ≤ 220 → hTen h → (jE (d + 5) 80 14 [some (.inr (.inr (some (9, (0, 0))))), some (.inl (jn k)), a2] [] (n, ([], tX M h s)) v σ' ↔ v = some (.inl (rdRun (tx (M 12 (30, 0)) L) L f s h).1) ∧ σ' = (n, ([], tX M (rdRun (tx (M 12 (30, 0)) L) L f s h).2.2 (rdRun (tx (M 12 (30, 0)) L) L f s h).2.1))) := by
  intro f
  induction f with
  | zero =>
    intro k s h a2 hk hs hs2 w
    rw [s80_14, s80_15, s80_18, if_pos (show (200 : Int32) ≤ jn k from (jn_le (k := 200) (by omega) (by omega)).mpr (by omega)), s80_52, s80_54]
    rfl
  | succ f ih =>
    intro k s h a2 hk hs hs2 w
    rw [s80_14, s80_15, s80_18, if_neg (show ¬ (200 : Int32) ≤ jn k from fun z => absurd ((jn_le (k := 200) (by omega) (by omega)).mp z) (by omega)), rdRun]
    simp only [s80_21, s80_22, s80_25, s80_26, s80_29, tX_2, tX_3, hL]
    by_cases e1 : s < L
    · rw [if_neg (fun z => absurd ((jn_le (by omega) (by omega)).mp z) (by omega)), if_pos e1]
      simp only [s80_32, s80_33, s80_36, s80_37, s80_38, tX_3, c81 hL h1 (show s ≤ 800 by omega) w, jcall_eq, Option.toList_some, Option.toList_none, List.cons_append, List.nil_append, s80_41]
      have e5 := itRd_ten (t := tx (M 12 (30, 0)) L) (s := s) w
      by_cases e2 : (itRd (tx (M 12 (30, 0)) L) s h).1 = 0
      · rw [if_neg (fun z => z e2), if_pos e2, s80_44, s80_45]
      · rw [if_pos e2, if_neg e2, s80_46, s80_49, jn_1]
        exact ih (k + 1) _ _ _ (by omega) (by omega) (by omega) e5.1
    · rw [if_pos ((jn_le (by omega) (by omega)).mpr (by omega)), if_neg e1, s80_52, s80_54]
def rdAll (M : jM) (L : Nat) : Int32 × Nat × (Nat → Nat → Int32) := rdRun (tx (M 12 (30, 0)) L) L 200 0 (hNew (gH M 0))
theorem hNew_ten (h : Nat → Nat → Int32) : hTen (hNew h) := ⟨0, by omega, rfl⟩
/-- Text.read -/
theorem c80 (hL : M 9 (0, 0) 2 = jn L) (h1 : L ≤ 200) : jE (d + 5) 80 0 [some (.inr (.inr (some (9, (0, 0))))), none, none] [] (n, ([], M)) v σ' ↔ v = some (.inl (rdAll M L).1) ∧ σ' = (n, ([], tX M (rdAll M L).2.2 (rdAll M L).2.1)) := by
  have e : jUp (sH M 0 (hNew (gH M 0))) 9 (0, 0) 3 0 = tX M (hNew (gH M 0)) 0 := by
    rw [up_sH (by decide) (by decide)]
    rfl
  simp only [s80_0, s80_1, s80_4, s80_7, s80_8, s80_9, s80_12, s80_13, c8, jcall_eq, Option.toList_some, Option.toList_none, List.cons_append, List.nil_append, e]
  exact c80_loop hL h1 200 0 0 _ none (by omega) (by omega) (by omega) (hNew_ten _)
/-- Text.append -/
theorem c79 (hL : M 9 (0, 0) 2 = jn L) (h1 : L ≤ 200) : jE (d + 1) 79 0 [some (.inr (.inr (some (9, (0, 0))))), some (.inl x)] [] (n, ([], M)) v σ' ↔ v = some (.inl (jb (L < 200))) ∧ σ' = (n, ([], if L < 200 then jUp (mC M (30, 0) (upd (M 12 (30, 0)) L x)) 9 (0, 0) 2 (jn (L + 1)) else M)) := by
  simp only [s79_0, s79_1, s79_4, s79_7, s79_10, s79_11, s79_12, s79_13, s79_16, s79_17, s79_20, s79_21, s79_24, s79_25, s79_26, s79_29, s79_30, s79_31, s79_34, s79_35, hL, c60, jcall_eq, Option.toList_some, Option.toList_none, List.cons_append, List.nil_append, jl_30, mC_k (show (9 : Nat) ≠ 12 by decide), jn_1]
  by_cases e1 : L < 200
  · rw [if_pos (show jn L < 200 from (jn_lt (k := L) (l := 200) (by omega) (by omega)).mpr e1), rs_in (by omega) e1, jb_t e1, if_pos e1]
    exact ⟨fun w => w.2, fun w => ⟨by simp, w⟩⟩
  · rw [if_neg (show ¬ jn L < 200 from fun z => e1 ((jn_lt (k := L) (l := 200) (by omega) (by omega)).mp z)), jb_f e1, if_neg e1]
    exact ⟨fun w => w.2, fun w => ⟨by simp, w⟩⟩
end JT2
