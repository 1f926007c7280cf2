/-! the start: the first text of the class, the first house of the reference -/
def tS (i : Nat) : Int32 := jstr.getD i 0
def laT (M : jM) (k : Nat) : jM := jUp (mC M (30, 0) (fun j => if j < k then tS j else M 12 (30, 0) j)) 9 (0, 0) 2 (jn k)
theorem jstr_93 : jstr.length = 93 := by decide +kernel
def R0 : Int32 × Nat × (Nat → Nat → Int32) := rdRun (tx tS 93) 93 200 0 (hNew (fun _ _ => 0))
theorem R0_1 : R0.1 = -4 ∧ R0.2.2 10 10 = 5 ∧ R0.2.2 10 11 = 6 ∧ R0.2.2 10 12 = 5 := by decide +kernel
def h0N : jH := hSc (hNew (fun _ _ => 0)) 13 0
def h1A : jH := hTell 0 1 2 10 0 10 3 (hTell 0 1 2 10 3 12 2 (hTell 0 1 2 10 1 4 8 (hTell 0 1 2 10 2 6 1 (hTell 0 1 2 10 0 8 0 h0N))))
def h1B : jH := hTell 5 6 7 11 0 2 11 (hTell 5 6 7 11 0 0 5 (hTell 5 6 7 11 2 3 20 (hTell 5 6 7 11 0 1 14 (hTell 5 6 7 11 1 0 6 (hTell 5 6 7 11 0 2 9 h1A)))))
def h1C : jH := hSc (hMount (hMount (hMount (hMount (hMount h1B 0 0) 1 1) 4 2) 2 3) 3 4) 13 25
theorem R0_h : hEq h1C R0.2.2 := by
  have h1 : ∀ f, f < 10 → ∀ s, s < 7 → h1C f s = R0.2.2 f s := by decide +kernel
  have h2 : ∀ s, s < 16 → 10 ≤ s → h1C 10 s = R0.2.2 10 s := by decide +kernel
  exact ⟨h1, fun s a b => h2 s b a⟩
section JST
variable {d n L s s' a b l m k : Nat} {v : Option jV} {σ' : jS} {M N : jM} {x y u z : Int32} {h : jH} {al : jL} {st : List jV} {σ : jS} {r0 : jV}
theorem s89_135 (h : k < 93) : jE d 89 135 al (.inl (jn k) :: .inr (.inr (some (18, (0, 0)))) :: [r0]) σ v σ' ↔ jE d 89 138 al (.inl (tS k) :: [r0]) σ v σ' := by
  have hl : (jMthT.getD (jOwn 89) []).lookup 85 = some 902 := by decide +kernel
  refine jE_next ?_
  rw [jst_of (by decide +kernel : jF 89 135 = some (.invokevirtual 85, 3))]
  simp only [jexe]
  rw [hl]
  rw [if_pos ⟨⟨trivial, by simp⟩, jn_pos (by omega), by rw [jstr_93, jn_clamp (by omega)]; exact h⟩, jn_clamp (by omega)]
  rfl
theorem r89_text : ∀ (m k : Nat), k + m = 93 → (jE (d + 20) 89 119 [some (.inr (.inr (some (10, (0, 0))))), some (.inl (jn k))] [] (n, ([], laT M k)) v σ' ↔ jE (d + 20) 89 148 [some (.inr (.inr (some (10, (0, 0))))), some (.inl (jn 93))] [] (n, ([], laT M 93)) v σ') := by
  intro m
  induction m with
  | zero =>
    intro k hk
    obtain rfl : k = 93 := by omega
    rw [s89_119, s89_120, s89_122, s89_125, jstr_93, if_pos (show jn 93 ≤ jn 93 from Int32.le_refl _)]
  | succ m ih =>
    intro k hk
    have e : jUp (mC (laT M k) (30, 0) (upd (laT M k 12 (30, 0)) k (tS k))) 9 (0, 0) 2 (jn (k + 1)) = laT M (k + 1) := by
      unfold laT
      rw [jUp_k (by decide), mC_jUp (by decide), mC_mC, jUp_up, mC_at]
      congr 2
      funext j
      unfold upd
      by_cases e1 : j = k
      · rw [if_pos e1, if_pos (by omega), e1]
      · rw [if_neg e1]
        dsimp only
        by_cases e2 : j < k
        · rw [if_pos e2, if_pos (by omega)]
        · rw [if_neg e2, if_neg (by omega)]
    have q := fun v σ' => c79 (d := d + 18) (n := n) (v := v) (σ' := σ') (M := laT M k) (x := tS k) (L := k) (by unfold laT; rw [jUp_at]) (by omega)
    rw [if_pos (show k < 200 by omega), e] at q
    rw [s89_119, s89_120, s89_122, s89_125, jstr_93, if_neg (show ¬ jn 93 ≤ jn k from fun z => absurd ((jn_le (by omega) (by omega)).mp z) (by omega))]
    rw [s89_128, s89_129, s89_132, s89_134, s89_135 (by omega)]
    simp only [s89_138, q, jcall_eq, Option.toList_some, Option.toList_none, List.cons_append, List.nil_append, s89_141, s89_142]
    rw [s89_145, jn_1]
    exact ih (k + 1) (by omega)
theorem tx_tS : tx (laT M 93 12 (30, 0)) 93 = tx tS 93 := by
  funext i
  unfold tx
  by_cases h : i < 93
  · rw [if_pos h, if_pos h, rg_in (by omega) (by omega), rg_in (by omega) (by omega)]
    unfold laT
    rw [jUp_k (by decide), mC_at, if_pos h]
  · rw [if_neg h, if_neg h]
/-- Laws.init from its text on -/
theorem r89_end (h9 : M 9 (0, 0) 2 = 0) (h0 : gH M 0 = fun _ _ => 0) : ∃ g, hEq g R0.2.2 ∧ ∀ (v : Option jV) (σ' : jS), jE (d + 20) 89 117 [some (.inr (.inr (some (10, (0, 0))))), none] [] (n, ([], M)) v σ' ↔ v = none ∧ σ' = (n, ([], jUp (opM (tX (laT M 93) R0.2.2 R0.2.1) g) 9 (0, 0) 2 0)) := by
  have e0 : laT M 0 = M := by
    unfold laT
    rw [show (fun j => if j < 0 then tS j else M 12 (30, 0) j) = M 12 (30, 0) from funext fun j => if_neg (by omega), mC_self, show jn 0 = M 9 (0, 0) 2 from h9.symm, jUp_self]
  have eg : gH (laT M 93) 0 = fun _ _ => 0 := by
    rw [← h0]
    unfold laT
    rw [gH_up (by decide) (by decide), gH_mC (by decide)]
  have eR : rdAll (laT M 93) 93 = R0 := by
    unfold rdAll
    rw [tx_tS, eg]
    rfl
  refine ⟨gH (tX (laT M 93) R0.2.2 R0.2.1) 0, ?_, fun v σ' => ?_⟩
  · unfold tX
    exact hEq_gH _ _ _
  · have q := fun v σ' => c80 (d := d + 14) (n := n) (v := v) (σ' := σ') (M := laT M 93) (L := 93) (by unfold laT; rw [jUp_at]) (by omega)
    rw [eR, R0_1.1] at q
    rw [s89_117, s89_118, show (0 : Int32) = jn 0 from rfl]
    have q2 := r89_text (d := d) (n := n) (M := M) (v := v) (σ' := σ') 93 0 (by omega)
    rw [e0] at q2
    rw [q2]
    simp only [s89_148, s89_149, s89_152, q, jcall_eq, Option.toList_some, Option.toList_none, List.cons_append, List.nil_append, s89_155, s89_157, not_true_eq_false, if_false, s89_160, s89_161, s89_162, s89_165, s89_168, l118, s89_171, s89_172, s89_175, s89_176, s89_179]
    exact Iff.rfl
/-- the reference's first house -/
theorem r136 (h42 : M 12 (42, 0) 1 = jn a) (ha : a < 7) : jE d 136 0 [some (.inr (.inr (some (11, (0, 0))))), some (.inl x), some (.inl y), some (.inl z)] [] (n, ([], M)) v σ' ↔ v = none ∧ σ' = (n, ([], scN M a x y z)) := by
  simp (disch := omega) only [s136_0, s136_1, s136_4, s136_6, s136_7, s136_10, s136_11, s136_12, s136_13, s136_14, s136_15, s136_16, s136_19, s136_21, s136_22, s136_25, s136_26, s136_27, s136_28, s136_29, s136_30, s136_31, s136_34, s136_36, s136_37, s136_40, s136_41, s136_42, s136_43, s136_44, s136_45, s136_46, s136_49, s136_50, s136_51, s136_52, s136_53, s136_54, s136_55, jm_42, jm_43, jm_44, jm_45, jk1, ji1 (show 1 < 2 by decide), h42, jnA7, jiz, jcl, mC_up, mC_ne (show ((44, 0) : jA) ≠ (43, 0) by decide), mC_ne (show ((45, 0) : jA) ≠ (43, 0) by decide), mC_ne (show ((45, 0) : jA) ≠ (44, 0) by decide), mC_ne (show ((42, 0) : jA) ≠ (43, 0) by decide), mC_ne (show ((42, 0) : jA) ≠ (44, 0) by decide), mC_ne (show ((42, 0) : jA) ≠ (45, 0) by decide), jn_1]
  rfl
theorem r137 (h46 : M 12 (46, 0) 1 = jn b) (hb : b < 7) : jE d 137 0 [some (.inr (.inr (some (11, (0, 0))))), some (.inl x), some (.inl y), some (.inl z)] [] (n, ([], M)) v σ' ↔ v = none ∧ σ' = (n, ([], seN M b x y z)) := by
  simp (disch := omega) only [s137_0, s137_1, s137_4, s137_5, s137_8, s137_9, s137_10, s137_11, s137_12, s137_13, s137_16, s137_18, s137_19, s137_22, s137_23, s137_24, s137_25, s137_26, s137_27, s137_28, s137_31, s137_33, s137_34, s137_37, s137_38, s137_39, s137_40, s137_41, s137_42, s137_43, s137_46, s137_47, s137_48, s137_49, s137_50, s137_51, s137_52, jm_46, jm_47, jm_48, jm_49, jk1, ji1 (show 1 < 2 by decide), h46, jnA7, jiz, jcl, mC_up, mC_ne (show ((48, 0) : jA) ≠ (47, 0) by decide), mC_ne (show ((49, 0) : jA) ≠ (47, 0) by decide), mC_ne (show ((49, 0) : jA) ≠ (48, 0) by decide), mC_ne (show ((46, 0) : jA) ≠ (47, 0) by decide), mC_ne (show ((46, 0) : jA) ≠ (48, 0) by decide), mC_ne (show ((46, 0) : jA) ≠ (49, 0) by decide), jn_1]
  rfl
theorem r138 (h11 : M 11 (0, 0) 11 = jn l) (hl : l < 7) : jE d 138 0 [some (.inr (.inr (some (11, (0, 0))))), some (.inl x)] [] (n, ([], M)) v σ' ↔ v = none ∧ σ' = (n, ([], bN M l x)) := by
  simp (disch := omega) only [s138_0, s138_1, s138_4, s138_5, s138_8, s138_9, s138_10, s138_11, s138_12, s138_15, s138_16, s138_17, s138_20, jm_50, h11, jiz, jcl, mC_up, mC_k (show (11 : Nat) ≠ 12 by decide), jn_1]
  rfl
theorem dM_scN (g : h 10 10 = jn a) (ha : a < 7) (q : dM a b l M h) : dM (a + 1) b l (scN M a x y z) (hTell 0 1 2 10 x y z h) := by
  refine ⟨⟨?_, ?_, ?_, ?_⟩, ?_, ?_, ?_⟩
  · unfold scN
    rw [mC_at]
    rfl
  · unfold scN
    rw [mC_ne (by decide), mC_ne (by decide), mC_ne (by decide), mC_ne (by decide)]
    exact q.1.2.1
  · unfold scN
    rw [mC_k (by decide), mC_k (by decide), mC_k (by decide), mC_k (by decide)]
    exact q.1.2.2.1
  · unfold scN
    rw [mC_k (by decide), mC_k (by decide), mC_k (by decide), mC_k (by decide)]
    exact q.1.2.2.2
  · intro i hi
    unfold scN
    rw [mC_ne (by decide), mC_ne (by decide), mC_ne (by decide), mC_at, mC_ne (by decide), mC_ne (by decide), mC_at, mC_ne (by decide), mC_at]
    show upd (M 12 (43, 0)) (7 + a) _ (7 + i) = rs 7 (h 0) (h 10 10) _ i ∧ upd (M 12 (44, 0)) (7 + a) _ (7 + i) = rs 7 (h 1) (h 10 10) _ i ∧ upd (M 12 (45, 0)) (7 + a) _ (7 + i) = rs 7 (h 2) (h 10 10) _ i
    rw [g, rs_in (by omega) (by omega), rs_in (by omega) (by omega), rs_in (by omega) (by omega)]
    unfold upd
    by_cases e : i = a
    · have k : 7 + i = 7 + a := by omega
      exact ⟨(if_pos k).trans (if_pos e).symm, (if_pos k).trans (if_pos e).symm, (if_pos k).trans (if_pos e).symm⟩
    · have k : ¬ 7 + i = 7 + a := by omega
      have y := q.2.1 i (by omega)
      exact ⟨(if_neg k).trans (y.1.trans (if_neg e).symm), (if_neg k).trans (y.2.1.trans (if_neg e).symm), (if_neg k).trans (y.2.2.trans (if_neg e).symm)⟩
  · intro i hi
    unfold scN
    rw [mC_ne (by decide), mC_ne (by decide), mC_ne (by decide), mC_ne (by decide), mC_ne (by decide), mC_ne (by decide), mC_ne (by decide), mC_ne (by decide), mC_ne (by decide), mC_ne (by decide), mC_ne (by decide), mC_ne (by decide)]
    exact q.2.2.1 i hi
  · intro i hi
    unfold scN
    rw [mC_ne (by decide), mC_ne (by decide), mC_ne (by decide), mC_ne (by decide)]
    exact q.2.2.2 i hi
theorem dM_seN (g : h 10 11 = jn b) (hb : b < 7) (q : dM a b l M h) : dM a (b + 1) l (seN M b x y z) (hTell 5 6 7 11 x y z h) := by
  refine ⟨⟨?_, ?_, ?_, ?_⟩, ?_, ?_, ?_⟩
  · unfold seN
    rw [mC_ne (by decide), mC_ne (by decide), mC_ne (by decide), mC_ne (by decide)]
    exact q.1.1
  · unfold seN
    rw [mC_at]
    rfl
  · unfold seN
    rw [mC_k (by decide), mC_k (by decide), mC_k (by decide), mC_k (by decide)]
    exact q.1.2.2.1
  · unfold seN
    rw [mC_k (by decide), mC_k (by decide), mC_k (by decide), mC_k (by decide)]
    exact q.1.2.2.2
  · intro i hi
    unfold seN
    rw [mC_ne (by decide), mC_ne (by decide), mC_ne (by decide), mC_ne (by decide), mC_ne (by decide), mC_ne (by decide), mC_ne (by decide), mC_ne (by decide), mC_ne (by decide), mC_ne (by decide), mC_ne (by decide), mC_ne (by decide)]
    exact q.2.1 i hi
  · intro i hi
    unfold seN
    rw [mC_ne (by decide), mC_ne (by decide), mC_ne (by decide), mC_at, mC_ne (by decide), mC_ne (by decide), mC_at, mC_ne (by decide), mC_at]
    show upd (M 12 (47, 0)) b _ i = rs 7 (h 5) (h 10 11) _ i ∧ upd (M 12 (48, 0)) (7 + b) _ (7 + i) = rs 7 (h 6) (h 10 11) _ i ∧ upd (M 12 (49, 0)) (7 + b) _ (7 + i) = rs 7 (h 7) (h 10 11) _ i
    rw [g, rs_in (by omega) (by omega), rs_in (by omega) (by omega), rs_in (by omega) (by omega)]
    unfold upd
    by_cases e : i = b
    · have k : 7 + i = 7 + b := by omega
      exact ⟨(if_pos e).trans (if_pos e).symm, (if_pos k).trans (if_pos e).symm, (if_pos k).trans (if_pos e).symm⟩
    · have k : ¬ 7 + i = 7 + b := by omega
      have y := q.2.2.1 i (by omega)
      exact ⟨(if_neg e).trans (y.1.trans (if_neg e).symm), (if_neg k).trans (y.2.1.trans (if_neg e).symm), (if_neg k).trans (y.2.2.trans (if_neg e).symm)⟩
  · intro i hi
    unfold seN
    rw [mC_ne (by decide), mC_ne (by decide), mC_ne (by decide), mC_ne (by decide)]
    exact q.2.2.2 i hi
theorem dM_bN (g : hB h = l) (q : dM a b l M h) : dM a b (l + 1) (bN M l x) (hMount h x l) := by
  have f : ∀ r, r ≠ 4 → r ≠ 10 → hMount h x l r = h r := by
    intro r h4 h10
    unfold hMount
    rw [hSc_f h10, nset_ne h4]
  refine ⟨⟨?_, ?_, ?_, ?_⟩, fun i hi => ?_, fun i hi => ?_, fun i hi => ?_⟩
  · unfold bN; rw [jUp_k (by decide), mC_ne (by decide)]; exact q.1.1
  · unfold bN; rw [jUp_k (by decide), mC_ne (by decide)]; exact q.1.2.1
  · unfold bN; rw [jUp_at]
  · unfold bN hMount; rw [jUp_s (by decide), mC_k (by decide), hSc_10' (by decide), nset_ne (by decide)]; exact q.1.2.2.2
  · unfold bN; rw [jUp_k (by decide), mC_ne (by decide), mC_ne (by decide), mC_ne (by decide), f 0 (by decide) (by decide), f 1 (by decide) (by decide), f 2 (by decide) (by decide)]; exact q.2.1 i hi
  · unfold bN; rw [jUp_k (by decide), mC_ne (by decide), mC_ne (by decide), mC_ne (by decide), f 5 (by decide) (by decide), f 6 (by decide) (by decide), f 7 (by decide) (by decide)]; exact q.2.2.1 i hi
  · unfold bN hMount
    rw [jUp_k (by decide), mC_at, hSc_f (by decide), nset_at, g]
    unfold upd rins
    by_cases e : i = l
    · rw [if_pos e, if_neg (by omega), if_pos e]
    · rw [if_neg e, if_pos (by omega)]; exact q.2.2.2 i (by omega)
theorem dM_till (q : dM a b l N h) : dM a b l (jUp N 11 (0, 0) 12 x) (hSc h 13 x) := by
  refine ⟨⟨?_, ?_, ?_, ?_⟩, fun i hi => ?_, fun i hi => ?_, fun i hi => ?_⟩
  · rw [jUp_k (by decide)]; exact q.1.1
  · rw [jUp_k (by decide)]; exact q.1.2.1
  · rw [jUp_s (by decide)]; exact q.1.2.2.1
  · rw [jUp_at, hSc_10]
  · rw [jUp_k (by decide), hSc_f (by decide), hSc_f (by decide), hSc_f (by decide)]; exact q.2.1 i hi
  · rw [jUp_k (by decide), hSc_f (by decide), hSc_f (by decide), hSc_f (by decide)]; exact q.2.2.1 i hi
  · rw [jUp_k (by decide), hSc_f (by decide)]; exact q.2.2.2 i hi
theorem dM_hEq {g : jH} (q : dM a b l N g) (e : hEq g h) (ha : a ≤ 7) (hb : b ≤ 7) (hl : l ≤ 7) : dM a b l N h := by
  refine ⟨⟨q.1.1, q.1.2.1, q.1.2.2.1, ?_⟩, fun i hi => ?_, fun i hi => ?_, fun i hi => ?_⟩
  · rw [← e.2 13 (by omega) (by omega)]; exact q.1.2.2.2
  · rw [← e.1 0 (by omega) i (by omega), ← e.1 1 (by omega) i (by omega), ← e.1 2 (by omega) i (by omega)]; exact q.2.1 i hi
  · rw [← e.1 5 (by omega) i (by omega), ← e.1 6 (by omega) i (by omega), ← e.1 7 (by omega) i (by omega)]; exact q.2.2.1 i hi
  · rw [← e.1 4 (by omega) i (by omega)]; exact q.2.2.2 i hi
/-- first -/
theorem r139 (q : dM 0 0 0 M h0N) : ∃ N, dM 5 6 5 N R0.2.2 ∧ iEq M N ∧ ∀ (v : Option jV) (σ' : jS), jE (d + 1) 139 0 [some (.inr (.inr (some (11, (0, 0)))))] [] (n, ([], M)) v σ' ↔ v = none ∧ σ' = (n, ([], N)) := by
  have d1 := dM_scN (x := 0) (y := 8) (z := 0) (show h0N 10 10 = jn 0 from rfl) (by omega) q
  have d2 := dM_scN (x := 2) (y := 6) (z := 1) (show _ = jn 1 from rfl) (by omega) d1
  have d3 := dM_scN (x := 1) (y := 4) (z := 8) (show _ = jn 2 from rfl) (by omega) d2
  have d4 := dM_scN (x := 3) (y := 12) (z := 2) (show _ = jn 3 from rfl) (by omega) d3
  have d5 : dM 5 0 0 _ h1A := dM_scN (x := 0) (y := 10) (z := 3) (show _ = jn 4 from rfl) (by omega) d4
  have d6 := dM_seN (x := 0) (y := 2) (z := 9) (show h1A 10 11 = jn 0 from rfl) (by omega) d5
  have d7 := dM_seN (x := 1) (y := 0) (z := 6) (show _ = jn 1 from rfl) (by omega) d6
  have d8 := dM_seN (x := 0) (y := 1) (z := 14) (show _ = jn 2 from rfl) (by omega) d7
  have d9 := dM_seN (x := 2) (y := 3) (z := 20) (show _ = jn 3 from rfl) (by omega) d8
  have d10 := dM_seN (x := 0) (y := 0) (z := 5) (show _ = jn 4 from rfl) (by omega) d9
  have d11 : dM 5 6 0 _ h1B := dM_seN (x := 0) (y := 2) (z := 11) (show _ = jn 5 from rfl) (by omega) d10
  have d12 := dM_bN (x := 0) (show hB h1B = 0 from rfl) d11
  have d13 := dM_bN (x := 1) (show _ = 1 from rfl) d12
  have d14 := dM_bN (x := 4) (show _ = 2 from rfl) d13
  have d15 := dM_bN (x := 2) (show _ = 3 from rfl) d14
  have d16 := dM_bN (x := 3) (show _ = 4 from rfl) d15
  generalize hN1 : scN M 0 0 8 0 = N1 at *
  generalize hN2 : scN N1 1 2 6 1 = N2 at *
  generalize hN3 : scN N2 2 1 4 8 = N3 at *
  generalize hN4 : scN N3 3 3 12 2 = N4 at *
  generalize hN5 : scN N4 4 0 10 3 = N5 at *
  generalize hN6 : seN N5 0 0 2 9 = N6 at *
  generalize hN7 : seN N6 1 1 0 6 = N7 at *
  generalize hN8 : seN N7 2 0 1 14 = N8 at *
  generalize hN9 : seN N8 3 2 3 20 = N9 at *
  generalize hN10 : seN N9 4 0 0 5 = N10 at *
  generalize hN11 : seN N10 5 0 2 11 = N11 at *
  generalize hN12 : bN N11 0 0 = N12 at *
  generalize hN13 : bN N12 1 1 = N13 at *
  generalize hN14 : bN N13 2 4 = N14 at *
  generalize hN15 : bN N14 3 2 = N15 at *
  generalize hN16 : bN N15 4 3 = N16 at *
  have e1 : ∀ {A B : jM} {a : Nat} {x y z : Int32}, scN A a x y z = B → iEq A B := by
    intro A B a x y z h
    rw [← h]
    unfold scN
    refine iEq_tr (iEq_43 (f := 45) (j := 7 + a) (by omega) (by omega) (iEq_43 (f := 44) (j := 7 + a) (by omega) (by omega) (iEq_43 (f := 43) (j := 7 + a) (by omega) (by omega) (iEq_rfl A) rfl) (mC_ne (by decide))) (by rw [mC_ne (by decide), mC_ne (by decide)])) (iEq_mC (fun i => ?_))
    by_cases h1 : i = 1
    · left; unfold scr; simp; omega
    · right
      rw [mC_ne (by decide), mC_ne (by decide), mC_ne (by decide)]
      exact if_neg h1
  have e2 : ∀ {A B : jM} {a : Nat} {x y z : Int32}, seN A a x y z = B → iEq A B := by
    intro A B b x y z h
    rw [← h]
    unfold seN
    refine iEq_tr (iEq_43 (f := 49) (j := 7 + b) (by omega) (by omega) (iEq_43 (f := 48) (j := 7 + b) (by omega) (by omega) (iEq_mC (a := (47, 0)) (fun i => Or.inl (by unfold scr; simp))) (mC_ne (by decide))) (by rw [mC_ne (by decide), mC_ne (by decide)])) (iEq_mC (fun i => ?_))
    by_cases h1 : i = 1
    · left; unfold scr; simp; omega
    · right
      rw [mC_ne (by decide), mC_ne (by decide), mC_ne (by decide)]
      exact if_neg h1
  have e3 : ∀ {A B : jM} {l : Nat} {x : Int32}, bN A l x = B → iEq A B := by
    intro A B l x h
    rw [← h]
    exact iEq_bN
  have hE : dM 5 6 5 (jUp N16 11 (0, 0) 12 25) h1C := dM_till d16
  refine ⟨jUp N16 11 (0, 0) 12 25, dM_hEq hE R0_h (by omega) (by omega) (by omega), ?_, fun v σ' => ?_⟩
  · exact iEq_tr (e1 hN1) (iEq_tr (e1 hN2) (iEq_tr (e1 hN3) (iEq_tr (e1 hN4) (iEq_tr (e1 hN5) (iEq_tr (e2 hN6) (iEq_tr (e2 hN7) (iEq_tr (e2 hN8) (iEq_tr (e2 hN9) (iEq_tr (e2 hN10) (iEq_tr (e2 hN11) (iEq_tr (e3 hN12) (iEq_tr (e3 hN13) (iEq_tr (e3 hN14) (iEq_tr (e3 hN15) (iEq_tr (e3 hN16) (iEq_up (by unfold scr; simp)))))))))))))))))
  · simp only [s139_0, s139_1, s139_2, s139_4, s139_5, s139_8, s139_9, s139_10, s139_12, s139_13, s139_16, s139_17, s139_18, s139_19, s139_21, s139_24, s139_25, s139_26, s139_28, s139_29, s139_32, s139_33, s139_34, s139_36, s139_37, s139_40, s139_41, s139_42, s139_43, s139_45, s139_48, s139_49, s139_50, s139_51, s139_53, s139_56, s139_57, s139_58, s139_59, s139_61, s139_64, s139_65, s139_66, s139_67, s139_69, s139_72, s139_73, s139_74, s139_75, s139_76, s139_79, s139_80, s139_81, s139_82, s139_84, s139_87, s139_88, s139_89, s139_92, s139_93, s139_94, s139_97, s139_98, s139_99, s139_102, s139_103, s139_104, s139_107, s139_108, s139_109, s139_112, s139_113, s139_115, s139_118, r136 q.1.1 (show 0 < 7 by omega), hN1, r136 d1.1.1 (show 1 < 7 by omega), hN2, r136 d2.1.1 (show 2 < 7 by omega), hN3, r136 d3.1.1 (show 3 < 7 by omega), hN4, r136 d4.1.1 (show 4 < 7 by omega), hN5, r137 d5.1.2.1 (show 0 < 7 by omega), hN6, r137 d6.1.2.1 (show 1 < 7 by omega), hN7, r137 d7.1.2.1 (show 2 < 7 by omega), hN8, r137 d8.1.2.1 (show 3 < 7 by omega), hN9, r137 d9.1.2.1 (show 4 < 7 by omega), hN10, r137 d10.1.2.1 (show 5 < 7 by omega), hN11, r138 d11.1.2.2.1 (show 0 < 7 by omega), hN12, r138 d12.1.2.2.1 (show 1 < 7 by omega), hN13, r138 d13.1.2.2.1 (show 2 < 7 by omega), hN14, r138 d14.1.2.2.1 (show 3 < 7 by omega), hN15, r138 d15.1.2.2.1 (show 4 < 7 by omega), hN16, jcall_eq, Option.toList_some, Option.toList_none, List.cons_append, List.nil_append]
end JST
